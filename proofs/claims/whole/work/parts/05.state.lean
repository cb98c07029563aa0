abbrev tForm : Type := Int32 × Int32 × (Nat → Int32) × (Nat → Int32) × (Nat → Int32)
def tForm.mk (width : Int32) (draftSize : Int32) (draft : (Nat → Int32)) (literals : (Nat → Int32)) (sizes : (Nat → Int32)) : tForm := (width, draftSize, draft, literals, sizes)
def tForm.width (t : tForm) : Int32 := t.1
def tForm.draftSize (t : tForm) : Int32 := t.2.1
def tForm.draft (t : tForm) : (Nat → Int32) := t.2.2.1
def tForm.literals (t : tForm) : (Nat → Int32) := t.2.2.2.1
def tForm.sizes (t : tForm) : (Nat → Int32) := t.2.2.2.2
theorem tForm.s : (∀ (width : Int32) (draftSize : Int32) (draft : (Nat → Int32)) (literals : (Nat → Int32)) (sizes : (Nat → Int32)), (tForm.mk width draftSize draft literals sizes).width = width) ∧ (∀ (width : Int32) (draftSize : Int32) (draft : (Nat → Int32)) (literals : (Nat → Int32)) (sizes : (Nat → Int32)), (tForm.mk width draftSize draft literals sizes).draftSize = draftSize) ∧ (∀ (width : Int32) (draftSize : Int32) (draft : (Nat → Int32)) (literals : (Nat → Int32)) (sizes : (Nat → Int32)), (tForm.mk width draftSize draft literals sizes).draft = draft) ∧ (∀ (width : Int32) (draftSize : Int32) (draft : (Nat → Int32)) (literals : (Nat → Int32)) (sizes : (Nat → Int32)), (tForm.mk width draftSize draft literals sizes).literals = literals) ∧ (∀ (width : Int32) (draftSize : Int32) (draft : (Nat → Int32)) (literals : (Nat → Int32)) (sizes : (Nat → Int32)), (tForm.mk width draftSize draft literals sizes).sizes = sizes) := ⟨fun _ _ _ _ _ => rfl, fun _ _ _ _ _ => rfl, fun _ _ _ _ _ => rfl, fun _ _ _ _ _ => rfl, fun _ _ _ _ _ => rfl⟩
theorem tForm.eta (t : tForm) : tForm.mk t.width t.draftSize t.draft t.literals t.sizes = t := rfl
abbrev tRows : Type := (Nat → Int32) × (Nat → Int32) × Int32 × Int32 × Nat
def tRows.mk (wantTrue : (Nat → Int32)) (wantFalse : (Nat → Int32)) (size : Int32) (oldest : Int32) (room : Nat) : tRows := (wantTrue, wantFalse, size, oldest, room)
def tRows.wantTrue (t : tRows) : (Nat → Int32) := t.1
def tRows.wantFalse (t : tRows) : (Nat → Int32) := t.2.1
def tRows.size (t : tRows) : Int32 := t.2.2.1
def tRows.oldest (t : tRows) : Int32 := t.2.2.2.1
def tRows.room (t : tRows) : Nat := t.2.2.2.2
theorem tRows.s : (∀ (wantTrue : (Nat → Int32)) (wantFalse : (Nat → Int32)) (size : Int32) (oldest : Int32) (room : Nat), (tRows.mk wantTrue wantFalse size oldest room).wantTrue = wantTrue) ∧ (∀ (wantTrue : (Nat → Int32)) (wantFalse : (Nat → Int32)) (size : Int32) (oldest : Int32) (room : Nat), (tRows.mk wantTrue wantFalse size oldest room).wantFalse = wantFalse) ∧ (∀ (wantTrue : (Nat → Int32)) (wantFalse : (Nat → Int32)) (size : Int32) (oldest : Int32) (room : Nat), (tRows.mk wantTrue wantFalse size oldest room).size = size) ∧ (∀ (wantTrue : (Nat → Int32)) (wantFalse : (Nat → Int32)) (size : Int32) (oldest : Int32) (room : Nat), (tRows.mk wantTrue wantFalse size oldest room).oldest = oldest) ∧ (∀ (wantTrue : (Nat → Int32)) (wantFalse : (Nat → Int32)) (size : Int32) (oldest : Int32) (room : Nat), (tRows.mk wantTrue wantFalse size oldest room).room = room) := ⟨fun _ _ _ _ _ => rfl, fun _ _ _ _ _ => rfl, fun _ _ _ _ _ => rfl, fun _ _ _ _ _ => rfl, fun _ _ _ _ _ => rfl⟩
theorem tRows.eta (t : tRows) : tRows.mk t.wantTrue t.wantFalse t.size t.oldest t.room = t := rfl
abbrev tMods : Type := (Nat → Int32) × Int32 × Int32 × Int32 × Int32 × Int32
def tMods.mk (rows : (Nat → Int32)) (size : Int32) (seenTrue : Int32) (seenFalse : Int32) (begun : Int32) (complete : Int32) : tMods := (rows, size, seenTrue, seenFalse, begun, complete)
def tMods.rows (t : tMods) : (Nat → Int32) := t.1
def tMods.size (t : tMods) : Int32 := t.2.1
def tMods.seenTrue (t : tMods) : Int32 := t.2.2.1
def tMods.seenFalse (t : tMods) : Int32 := t.2.2.2.1
def tMods.begun (t : tMods) : Int32 := t.2.2.2.2.1
def tMods.complete (t : tMods) : Int32 := t.2.2.2.2.2
theorem tMods.s : (∀ (rows : (Nat → Int32)) (size : Int32) (seenTrue : Int32) (seenFalse : Int32) (begun : Int32) (complete : Int32), (tMods.mk rows size seenTrue seenFalse begun complete).rows = rows) ∧ (∀ (rows : (Nat → Int32)) (size : Int32) (seenTrue : Int32) (seenFalse : Int32) (begun : Int32) (complete : Int32), (tMods.mk rows size seenTrue seenFalse begun complete).size = size) ∧ (∀ (rows : (Nat → Int32)) (size : Int32) (seenTrue : Int32) (seenFalse : Int32) (begun : Int32) (complete : Int32), (tMods.mk rows size seenTrue seenFalse begun complete).seenTrue = seenTrue) ∧ (∀ (rows : (Nat → Int32)) (size : Int32) (seenTrue : Int32) (seenFalse : Int32) (begun : Int32) (complete : Int32), (tMods.mk rows size seenTrue seenFalse begun complete).seenFalse = seenFalse) ∧ (∀ (rows : (Nat → Int32)) (size : Int32) (seenTrue : Int32) (seenFalse : Int32) (begun : Int32) (complete : Int32), (tMods.mk rows size seenTrue seenFalse begun complete).begun = begun) ∧ (∀ (rows : (Nat → Int32)) (size : Int32) (seenTrue : Int32) (seenFalse : Int32) (begun : Int32) (complete : Int32), (tMods.mk rows size seenTrue seenFalse begun complete).complete = complete) := ⟨fun _ _ _ _ _ _ => rfl, fun _ _ _ _ _ _ => rfl, fun _ _ _ _ _ _ => rfl, fun _ _ _ _ _ _ => rfl, fun _ _ _ _ _ _ => rfl, fun _ _ _ _ _ _ => rfl⟩
theorem tMods.eta (t : tMods) : tMods.mk t.rows t.size t.seenTrue t.seenFalse t.begun t.complete = t := rfl
abbrev tSear : Type := Int32 × Int32
def tSear.mk (clauses : Int32) (ended : Int32) : tSear := (clauses, ended)
def tSear.clauses (t : tSear) : Int32 := t.1
def tSear.ended (t : tSear) : Int32 := t.2
theorem tSear.s : (∀ (clauses : Int32) (ended : Int32), (tSear.mk clauses ended).clauses = clauses) ∧ (∀ (clauses : Int32) (ended : Int32), (tSear.mk clauses ended).ended = ended) := ⟨fun _ _ => rfl, fun _ _ => rfl⟩
theorem tSear.eta (t : tSear) : tSear.mk t.clauses t.ended = t := rfl
abbrev tClash : Type := Int32 × Int32
def tClash.mk (clashTrue : Int32) (clashFalse : Int32) : tClash := (clashTrue, clashFalse)
def tClash.clashTrue (t : tClash) : Int32 := t.1
def tClash.clashFalse (t : tClash) : Int32 := t.2
theorem tClash.s : (∀ (clashTrue : Int32) (clashFalse : Int32), (tClash.mk clashTrue clashFalse).clashTrue = clashTrue) ∧ (∀ (clashTrue : Int32) (clashFalse : Int32), (tClash.mk clashTrue clashFalse).clashFalse = clashFalse) := ⟨fun _ _ => rfl, fun _ _ => rfl⟩
theorem tClash.eta (t : tClash) : tClash.mk t.clashTrue t.clashFalse = t := rfl
abbrev tTrail : Type := Int32 × Int32 × Int32 × Int32 × (Nat → Int32) × (Nat → Int32) × (Nat → Int32) × (Nat → Int32)
def tTrail.mk (trues : Int32) (falses : Int32) (length : Int32) (level : Int32) (order : (Nat → Int32)) (whyTrue : (Nat → Int32)) (whyFalse : (Nat → Int32)) (ahead : (Nat → Int32)) : tTrail := (trues, falses, length, level, order, whyTrue, whyFalse, ahead)
def tTrail.trues (t : tTrail) : Int32 := t.1
def tTrail.falses (t : tTrail) : Int32 := t.2.1
def tTrail.length (t : tTrail) : Int32 := t.2.2.1
def tTrail.level (t : tTrail) : Int32 := t.2.2.2.1
def tTrail.order (t : tTrail) : (Nat → Int32) := t.2.2.2.2.1
def tTrail.whyTrue (t : tTrail) : (Nat → Int32) := t.2.2.2.2.2.1
def tTrail.whyFalse (t : tTrail) : (Nat → Int32) := t.2.2.2.2.2.2.1
def tTrail.ahead (t : tTrail) : (Nat → Int32) := t.2.2.2.2.2.2.2
theorem tTrail.s : (∀ (trues : Int32) (falses : Int32) (length : Int32) (level : Int32) (order : (Nat → Int32)) (whyTrue : (Nat → Int32)) (whyFalse : (Nat → Int32)) (ahead : (Nat → Int32)), (tTrail.mk trues falses length level order whyTrue whyFalse ahead).trues = trues) ∧ (∀ (trues : Int32) (falses : Int32) (length : Int32) (level : Int32) (order : (Nat → Int32)) (whyTrue : (Nat → Int32)) (whyFalse : (Nat → Int32)) (ahead : (Nat → Int32)), (tTrail.mk trues falses length level order whyTrue whyFalse ahead).falses = falses) ∧ (∀ (trues : Int32) (falses : Int32) (length : Int32) (level : Int32) (order : (Nat → Int32)) (whyTrue : (Nat → Int32)) (whyFalse : (Nat → Int32)) (ahead : (Nat → Int32)), (tTrail.mk trues falses length level order whyTrue whyFalse ahead).length = length) ∧ (∀ (trues : Int32) (falses : Int32) (length : Int32) (level : Int32) (order : (Nat → Int32)) (whyTrue : (Nat → Int32)) (whyFalse : (Nat → Int32)) (ahead : (Nat → Int32)), (tTrail.mk trues falses length level order whyTrue whyFalse ahead).level = level) ∧ (∀ (trues : Int32) (falses : Int32) (length : Int32) (level : Int32) (order : (Nat → Int32)) (whyTrue : (Nat → Int32)) (whyFalse : (Nat → Int32)) (ahead : (Nat → Int32)), (tTrail.mk trues falses length level order whyTrue whyFalse ahead).order = order) ∧ (∀ (trues : Int32) (falses : Int32) (length : Int32) (level : Int32) (order : (Nat → Int32)) (whyTrue : (Nat → Int32)) (whyFalse : (Nat → Int32)) (ahead : (Nat → Int32)), (tTrail.mk trues falses length level order whyTrue whyFalse ahead).whyTrue = whyTrue) ∧ (∀ (trues : Int32) (falses : Int32) (length : Int32) (level : Int32) (order : (Nat → Int32)) (whyTrue : (Nat → Int32)) (whyFalse : (Nat → Int32)) (ahead : (Nat → Int32)), (tTrail.mk trues falses length level order whyTrue whyFalse ahead).whyFalse = whyFalse) ∧ (∀ (trues : Int32) (falses : Int32) (length : Int32) (level : Int32) (order : (Nat → Int32)) (whyTrue : (Nat → Int32)) (whyFalse : (Nat → Int32)) (ahead : (Nat → Int32)), (tTrail.mk trues falses length level order whyTrue whyFalse ahead).ahead = ahead) := ⟨fun _ _ _ _ _ _ _ _ => rfl, fun _ _ _ _ _ _ _ _ => rfl, fun _ _ _ _ _ _ _ _ => rfl, fun _ _ _ _ _ _ _ _ => rfl, fun _ _ _ _ _ _ _ _ => rfl, fun _ _ _ _ _ _ _ _ => rfl, fun _ _ _ _ _ _ _ _ => rfl, fun _ _ _ _ _ _ _ _ => rfl⟩
theorem tTrail.eta (t : tTrail) : tTrail.mk t.trues t.falses t.length t.level t.order t.whyTrue t.whyFalse t.ahead = t := rfl
abbrev tTask : Type := Int32 × Int32 × Int32 × Int32 × (Nat → Int32) × (Nat → Int32) × (Nat → Int32)
def tTask.mk (factCount : Int32) (actionCount : Int32) (beginning : Int32) (goal : Int32) (asks : (Nat → Int32)) (adds : (Nat → Int32)) (takes : (Nat → Int32)) : tTask := (factCount, actionCount, beginning, goal, asks, adds, takes)
def tTask.factCount (t : tTask) : Int32 := t.1
def tTask.actionCount (t : tTask) : Int32 := t.2.1
def tTask.beginning (t : tTask) : Int32 := t.2.2.1
def tTask.goal (t : tTask) : Int32 := t.2.2.2.1
def tTask.asks (t : tTask) : (Nat → Int32) := t.2.2.2.2.1
def tTask.adds (t : tTask) : (Nat → Int32) := t.2.2.2.2.2.1
def tTask.takes (t : tTask) : (Nat → Int32) := t.2.2.2.2.2.2
theorem tTask.s : (∀ (factCount : Int32) (actionCount : Int32) (beginning : Int32) (goal : Int32) (asks : (Nat → Int32)) (adds : (Nat → Int32)) (takes : (Nat → Int32)), (tTask.mk factCount actionCount beginning goal asks adds takes).factCount = factCount) ∧ (∀ (factCount : Int32) (actionCount : Int32) (beginning : Int32) (goal : Int32) (asks : (Nat → Int32)) (adds : (Nat → Int32)) (takes : (Nat → Int32)), (tTask.mk factCount actionCount beginning goal asks adds takes).actionCount = actionCount) ∧ (∀ (factCount : Int32) (actionCount : Int32) (beginning : Int32) (goal : Int32) (asks : (Nat → Int32)) (adds : (Nat → Int32)) (takes : (Nat → Int32)), (tTask.mk factCount actionCount beginning goal asks adds takes).beginning = beginning) ∧ (∀ (factCount : Int32) (actionCount : Int32) (beginning : Int32) (goal : Int32) (asks : (Nat → Int32)) (adds : (Nat → Int32)) (takes : (Nat → Int32)), (tTask.mk factCount actionCount beginning goal asks adds takes).goal = goal) ∧ (∀ (factCount : Int32) (actionCount : Int32) (beginning : Int32) (goal : Int32) (asks : (Nat → Int32)) (adds : (Nat → Int32)) (takes : (Nat → Int32)), (tTask.mk factCount actionCount beginning goal asks adds takes).asks = asks) ∧ (∀ (factCount : Int32) (actionCount : Int32) (beginning : Int32) (goal : Int32) (asks : (Nat → Int32)) (adds : (Nat → Int32)) (takes : (Nat → Int32)), (tTask.mk factCount actionCount beginning goal asks adds takes).adds = adds) ∧ (∀ (factCount : Int32) (actionCount : Int32) (beginning : Int32) (goal : Int32) (asks : (Nat → Int32)) (adds : (Nat → Int32)) (takes : (Nat → Int32)), (tTask.mk factCount actionCount beginning goal asks adds takes).takes = takes) := ⟨fun _ _ _ _ _ _ _ => rfl, fun _ _ _ _ _ _ _ => rfl, fun _ _ _ _ _ _ _ => rfl, fun _ _ _ _ _ _ _ => rfl, fun _ _ _ _ _ _ _ => rfl, fun _ _ _ _ _ _ _ => rfl, fun _ _ _ _ _ _ _ => rfl⟩
theorem tTask.eta (t : tTask) : tTask.mk t.factCount t.actionCount t.beginning t.goal t.asks t.adds t.takes = t := rfl
abbrev tWays : Type := (Nat → Int32) × Int32
def tWays.mk (ways : (Nat → Int32)) (counted : Int32) : tWays := (ways, counted)
def tWays.ways (t : tWays) : (Nat → Int32) := t.1
def tWays.counted (t : tWays) : Int32 := t.2
theorem tWays.s : (∀ (ways : (Nat → Int32)) (counted : Int32), (tWays.mk ways counted).ways = ways) ∧ (∀ (ways : (Nat → Int32)) (counted : Int32), (tWays.mk ways counted).counted = counted) := ⟨fun _ _ => rfl, fun _ _ => rfl⟩
theorem tWays.eta (t : tWays) : tWays.mk t.ways t.counted = t := rfl
abbrev tCode : Type := (Nat → Int32) × (Nat → Int32) × Int32 × Int32
def tCode.mk (literals : (Nat → Int32)) (starts : (Nat → Int32)) (clauseCount : Int32) (literalCount : Int32) : tCode := (literals, starts, clauseCount, literalCount)
def tCode.literals (t : tCode) : (Nat → Int32) := t.1
def tCode.starts (t : tCode) : (Nat → Int32) := t.2.1
def tCode.clauseCount (t : tCode) : Int32 := t.2.2.1
def tCode.literalCount (t : tCode) : Int32 := t.2.2.2
theorem tCode.s : (∀ (literals : (Nat → Int32)) (starts : (Nat → Int32)) (clauseCount : Int32) (literalCount : Int32), (tCode.mk literals starts clauseCount literalCount).literals = literals) ∧ (∀ (literals : (Nat → Int32)) (starts : (Nat → Int32)) (clauseCount : Int32) (literalCount : Int32), (tCode.mk literals starts clauseCount literalCount).starts = starts) ∧ (∀ (literals : (Nat → Int32)) (starts : (Nat → Int32)) (clauseCount : Int32) (literalCount : Int32), (tCode.mk literals starts clauseCount literalCount).clauseCount = clauseCount) ∧ (∀ (literals : (Nat → Int32)) (starts : (Nat → Int32)) (clauseCount : Int32) (literalCount : Int32), (tCode.mk literals starts clauseCount literalCount).literalCount = literalCount) := ⟨fun _ _ _ _ => rfl, fun _ _ _ _ => rfl, fun _ _ _ _ => rfl, fun _ _ _ _ => rfl⟩
theorem tCode.eta (t : tCode) : tCode.mk t.literals t.starts t.clauseCount t.literalCount = t := rfl
abbrev tTold : Type := Int32 × Int32
def tTold.mk (steps : Int32) (told : Int32) : tTold := (steps, told)
def tTold.steps (t : tTold) : Int32 := t.1
def tTold.told (t : tTold) : Int32 := t.2
theorem tTold.s : (∀ (steps : Int32) (told : Int32), (tTold.mk steps told).steps = steps) ∧ (∀ (steps : Int32) (told : Int32), (tTold.mk steps told).told = told) := ⟨fun _ _ => rfl, fun _ _ => rfl⟩
theorem tTold.eta (t : tTold) : tTold.mk t.steps t.told = t := rfl
abbrev mForm : Type := Int32 × Int32 × (Nat → Int32) × (Nat → Int32) × (Nat → Int32) × (Nat → Int32) × Int32 × (Nat → Int32)
def mForm.mk (variables : Int32) (clauses : Int32) (literals : (Nat → Int32)) (sizes : (Nat → Int32)) (told : (Nat → Int32)) (toldNot : (Nat → Int32)) (drafted : Int32) (draft : (Nat → Int32)) : mForm := (variables, clauses, literals, sizes, told, toldNot, drafted, draft)
def mForm.variables (t : mForm) : Int32 := t.1
def mForm.clauses (t : mForm) : Int32 := t.2.1
def mForm.literals (t : mForm) : (Nat → Int32) := t.2.2.1
def mForm.sizes (t : mForm) : (Nat → Int32) := t.2.2.2.1
def mForm.told (t : mForm) : (Nat → Int32) := t.2.2.2.2.1
def mForm.toldNot (t : mForm) : (Nat → Int32) := t.2.2.2.2.2.1
def mForm.drafted (t : mForm) : Int32 := t.2.2.2.2.2.2.1
def mForm.draft (t : mForm) : (Nat → Int32) := t.2.2.2.2.2.2.2
theorem mForm.s : (∀ (variables : Int32) (clauses : Int32) (literals : (Nat → Int32)) (sizes : (Nat → Int32)) (told : (Nat → Int32)) (toldNot : (Nat → Int32)) (drafted : Int32) (draft : (Nat → Int32)), (mForm.mk variables clauses literals sizes told toldNot drafted draft).variables = variables) ∧ (∀ (variables : Int32) (clauses : Int32) (literals : (Nat → Int32)) (sizes : (Nat → Int32)) (told : (Nat → Int32)) (toldNot : (Nat → Int32)) (drafted : Int32) (draft : (Nat → Int32)), (mForm.mk variables clauses literals sizes told toldNot drafted draft).clauses = clauses) ∧ (∀ (variables : Int32) (clauses : Int32) (literals : (Nat → Int32)) (sizes : (Nat → Int32)) (told : (Nat → Int32)) (toldNot : (Nat → Int32)) (drafted : Int32) (draft : (Nat → Int32)), (mForm.mk variables clauses literals sizes told toldNot drafted draft).literals = literals) ∧ (∀ (variables : Int32) (clauses : Int32) (literals : (Nat → Int32)) (sizes : (Nat → Int32)) (told : (Nat → Int32)) (toldNot : (Nat → Int32)) (drafted : Int32) (draft : (Nat → Int32)), (mForm.mk variables clauses literals sizes told toldNot drafted draft).sizes = sizes) ∧ (∀ (variables : Int32) (clauses : Int32) (literals : (Nat → Int32)) (sizes : (Nat → Int32)) (told : (Nat → Int32)) (toldNot : (Nat → Int32)) (drafted : Int32) (draft : (Nat → Int32)), (mForm.mk variables clauses literals sizes told toldNot drafted draft).told = told) ∧ (∀ (variables : Int32) (clauses : Int32) (literals : (Nat → Int32)) (sizes : (Nat → Int32)) (told : (Nat → Int32)) (toldNot : (Nat → Int32)) (drafted : Int32) (draft : (Nat → Int32)), (mForm.mk variables clauses literals sizes told toldNot drafted draft).toldNot = toldNot) ∧ (∀ (variables : Int32) (clauses : Int32) (literals : (Nat → Int32)) (sizes : (Nat → Int32)) (told : (Nat → Int32)) (toldNot : (Nat → Int32)) (drafted : Int32) (draft : (Nat → Int32)), (mForm.mk variables clauses literals sizes told toldNot drafted draft).drafted = drafted) ∧ (∀ (variables : Int32) (clauses : Int32) (literals : (Nat → Int32)) (sizes : (Nat → Int32)) (told : (Nat → Int32)) (toldNot : (Nat → Int32)) (drafted : Int32) (draft : (Nat → Int32)), (mForm.mk variables clauses literals sizes told toldNot drafted draft).draft = draft) := ⟨fun _ _ _ _ _ _ _ _ => rfl, fun _ _ _ _ _ _ _ _ => rfl, fun _ _ _ _ _ _ _ _ => rfl, fun _ _ _ _ _ _ _ _ => rfl, fun _ _ _ _ _ _ _ _ => rfl, fun _ _ _ _ _ _ _ _ => rfl, fun _ _ _ _ _ _ _ _ => rfl, fun _ _ _ _ _ _ _ _ => rfl⟩
theorem mForm.eta (t : mForm) : mForm.mk t.variables t.clauses t.literals t.sizes t.told t.toldNot t.drafted t.draft = t := rfl
abbrev mKnow : Type := Int32 × Int32 × (Nat → Int32)
def mKnow.mk (isKnown : Int32) (many : Int32) (found : (Nat → Int32)) : mKnow := (isKnown, many, found)
def mKnow.isKnown (t : mKnow) : Int32 := t.1
def mKnow.many (t : mKnow) : Int32 := t.2.1
def mKnow.found (t : mKnow) : (Nat → Int32) := t.2.2
theorem mKnow.s : (∀ (isKnown : Int32) (many : Int32) (found : (Nat → Int32)), (mKnow.mk isKnown many found).isKnown = isKnown) ∧ (∀ (isKnown : Int32) (many : Int32) (found : (Nat → Int32)), (mKnow.mk isKnown many found).many = many) ∧ (∀ (isKnown : Int32) (many : Int32) (found : (Nat → Int32)), (mKnow.mk isKnown many found).found = found) := ⟨fun _ _ _ => rfl, fun _ _ _ => rfl, fun _ _ _ => rfl⟩
theorem mKnow.eta (t : mKnow) : mKnow.mk t.isKnown t.many t.found = t := rfl
abbrev mSat : Type := Int32 × Int32 × (Nat → Int32) × (Nat → Int32) × (Nat → Int32) × (Nat → Int32) × Int32
def mSat.mk (isTrue : Int32) (isFalse : Int32) (keptTrue : (Nat → Int32)) (keptFalse : (Nat → Int32)) (triedTrue : (Nat → Int32)) (triedFalse : (Nat → Int32)) (shortest1 : Int32) : mSat := (isTrue, isFalse, keptTrue, keptFalse, triedTrue, triedFalse, shortest1)
def mSat.isTrue (t : mSat) : Int32 := t.1
def mSat.isFalse (t : mSat) : Int32 := t.2.1
def mSat.keptTrue (t : mSat) : (Nat → Int32) := t.2.2.1
def mSat.keptFalse (t : mSat) : (Nat → Int32) := t.2.2.2.1
def mSat.triedTrue (t : mSat) : (Nat → Int32) := t.2.2.2.2.1
def mSat.triedFalse (t : mSat) : (Nat → Int32) := t.2.2.2.2.2.1
def mSat.shortest1 (t : mSat) : Int32 := t.2.2.2.2.2.2
theorem mSat.s : (∀ (isTrue : Int32) (isFalse : Int32) (keptTrue : (Nat → Int32)) (keptFalse : (Nat → Int32)) (triedTrue : (Nat → Int32)) (triedFalse : (Nat → Int32)) (shortest1 : Int32), (mSat.mk isTrue isFalse keptTrue keptFalse triedTrue triedFalse shortest1).isTrue = isTrue) ∧ (∀ (isTrue : Int32) (isFalse : Int32) (keptTrue : (Nat → Int32)) (keptFalse : (Nat → Int32)) (triedTrue : (Nat → Int32)) (triedFalse : (Nat → Int32)) (shortest1 : Int32), (mSat.mk isTrue isFalse keptTrue keptFalse triedTrue triedFalse shortest1).isFalse = isFalse) ∧ (∀ (isTrue : Int32) (isFalse : Int32) (keptTrue : (Nat → Int32)) (keptFalse : (Nat → Int32)) (triedTrue : (Nat → Int32)) (triedFalse : (Nat → Int32)) (shortest1 : Int32), (mSat.mk isTrue isFalse keptTrue keptFalse triedTrue triedFalse shortest1).keptTrue = keptTrue) ∧ (∀ (isTrue : Int32) (isFalse : Int32) (keptTrue : (Nat → Int32)) (keptFalse : (Nat → Int32)) (triedTrue : (Nat → Int32)) (triedFalse : (Nat → Int32)) (shortest1 : Int32), (mSat.mk isTrue isFalse keptTrue keptFalse triedTrue triedFalse shortest1).keptFalse = keptFalse) ∧ (∀ (isTrue : Int32) (isFalse : Int32) (keptTrue : (Nat → Int32)) (keptFalse : (Nat → Int32)) (triedTrue : (Nat → Int32)) (triedFalse : (Nat → Int32)) (shortest1 : Int32), (mSat.mk isTrue isFalse keptTrue keptFalse triedTrue triedFalse shortest1).triedTrue = triedTrue) ∧ (∀ (isTrue : Int32) (isFalse : Int32) (keptTrue : (Nat → Int32)) (keptFalse : (Nat → Int32)) (triedTrue : (Nat → Int32)) (triedFalse : (Nat → Int32)) (shortest1 : Int32), (mSat.mk isTrue isFalse keptTrue keptFalse triedTrue triedFalse shortest1).triedFalse = triedFalse) ∧ (∀ (isTrue : Int32) (isFalse : Int32) (keptTrue : (Nat → Int32)) (keptFalse : (Nat → Int32)) (triedTrue : (Nat → Int32)) (triedFalse : (Nat → Int32)) (shortest1 : Int32), (mSat.mk isTrue isFalse keptTrue keptFalse triedTrue triedFalse shortest1).shortest1 = shortest1) := ⟨fun _ _ _ _ _ _ _ => rfl, fun _ _ _ _ _ _ _ => rfl, fun _ _ _ _ _ _ _ => rfl, fun _ _ _ _ _ _ _ => rfl, fun _ _ _ _ _ _ _ => rfl, fun _ _ _ _ _ _ _ => rfl, fun _ _ _ _ _ _ _ => rfl⟩
theorem mSat.eta (t : mSat) : mSat.mk t.isTrue t.isFalse t.keptTrue t.keptFalse t.triedTrue t.triedFalse t.shortest1 = t := rfl
abbrev mBack : Type := Int32 × Int32
def mBack.mk (backYes : Int32) (backNo : Int32) : mBack := (backYes, backNo)
def mBack.backYes (t : mBack) : Int32 := t.1
def mBack.backNo (t : mBack) : Int32 := t.2
theorem mBack.s : (∀ (backYes : Int32) (backNo : Int32), (mBack.mk backYes backNo).backYes = backYes) ∧ (∀ (backYes : Int32) (backNo : Int32), (mBack.mk backYes backNo).backNo = backNo) := ⟨fun _ _ => rfl, fun _ _ => rfl⟩
theorem mBack.eta (t : mBack) : mBack.mk t.backYes t.backNo = t := rfl
abbrev mTask : Type := Int32 × Int32 × (Nat → Int32) × (Nat → Int32) × (Nat → Int32) × Int32 × Int32
def mTask.mk (facts : Int32) (actions : Int32) (asks : (Nat → Int32)) (adds : (Nat → Int32)) (takes : (Nat → Int32)) (beginning : Int32) (goal : Int32) : mTask := (facts, actions, asks, adds, takes, beginning, goal)
def mTask.facts (t : mTask) : Int32 := t.1
def mTask.actions (t : mTask) : Int32 := t.2.1
def mTask.asks (t : mTask) : (Nat → Int32) := t.2.2.1
def mTask.adds (t : mTask) : (Nat → Int32) := t.2.2.2.1
def mTask.takes (t : mTask) : (Nat → Int32) := t.2.2.2.2.1
def mTask.beginning (t : mTask) : Int32 := t.2.2.2.2.2.1
def mTask.goal (t : mTask) : Int32 := t.2.2.2.2.2.2
theorem mTask.s : (∀ (facts : Int32) (actions : Int32) (asks : (Nat → Int32)) (adds : (Nat → Int32)) (takes : (Nat → Int32)) (beginning : Int32) (goal : Int32), (mTask.mk facts actions asks adds takes beginning goal).facts = facts) ∧ (∀ (facts : Int32) (actions : Int32) (asks : (Nat → Int32)) (adds : (Nat → Int32)) (takes : (Nat → Int32)) (beginning : Int32) (goal : Int32), (mTask.mk facts actions asks adds takes beginning goal).actions = actions) ∧ (∀ (facts : Int32) (actions : Int32) (asks : (Nat → Int32)) (adds : (Nat → Int32)) (takes : (Nat → Int32)) (beginning : Int32) (goal : Int32), (mTask.mk facts actions asks adds takes beginning goal).asks = asks) ∧ (∀ (facts : Int32) (actions : Int32) (asks : (Nat → Int32)) (adds : (Nat → Int32)) (takes : (Nat → Int32)) (beginning : Int32) (goal : Int32), (mTask.mk facts actions asks adds takes beginning goal).adds = adds) ∧ (∀ (facts : Int32) (actions : Int32) (asks : (Nat → Int32)) (adds : (Nat → Int32)) (takes : (Nat → Int32)) (beginning : Int32) (goal : Int32), (mTask.mk facts actions asks adds takes beginning goal).takes = takes) ∧ (∀ (facts : Int32) (actions : Int32) (asks : (Nat → Int32)) (adds : (Nat → Int32)) (takes : (Nat → Int32)) (beginning : Int32) (goal : Int32), (mTask.mk facts actions asks adds takes beginning goal).beginning = beginning) ∧ (∀ (facts : Int32) (actions : Int32) (asks : (Nat → Int32)) (adds : (Nat → Int32)) (takes : (Nat → Int32)) (beginning : Int32) (goal : Int32), (mTask.mk facts actions asks adds takes beginning goal).goal = goal) := ⟨fun _ _ _ _ _ _ _ => rfl, fun _ _ _ _ _ _ _ => rfl, fun _ _ _ _ _ _ _ => rfl, fun _ _ _ _ _ _ _ => rfl, fun _ _ _ _ _ _ _ => rfl, fun _ _ _ _ _ _ _ => rfl, fun _ _ _ _ _ _ _ => rfl⟩
theorem mTask.eta (t : mTask) : mTask.mk t.facts t.actions t.asks t.adds t.takes t.beginning t.goal = t := rfl
abbrev mGo : Type := Int32 × Int32
def mGo.mk (did : Int32) (stood : Int32) : mGo := (did, stood)
def mGo.did (t : mGo) : Int32 := t.1
def mGo.stood (t : mGo) : Int32 := t.2
theorem mGo.s : (∀ (did : Int32) (stood : Int32), (mGo.mk did stood).did = did) ∧ (∀ (did : Int32) (stood : Int32), (mGo.mk did stood).stood = stood) := ⟨fun _ _ => rfl, fun _ _ => rfl⟩
theorem mGo.eta (t : mGo) : mGo.mk t.did t.stood = t := rfl
abbrev mCode : Type := Int32 × Int32 × Int32 × Int32 × (Nat → Int32) × Int32
def mCode.mk (codedClauses : Int32) (codedLiterals : Int32) (wanted : Int32) (wantedSize : Int32) (kept : (Nat → Int32)) (inHand : Int32) : mCode := (codedClauses, codedLiterals, wanted, wantedSize, kept, inHand)
def mCode.codedClauses (t : mCode) : Int32 := t.1
def mCode.codedLiterals (t : mCode) : Int32 := t.2.1
def mCode.wanted (t : mCode) : Int32 := t.2.2.1
def mCode.wantedSize (t : mCode) : Int32 := t.2.2.2.1
def mCode.kept (t : mCode) : (Nat → Int32) := t.2.2.2.2.1
def mCode.inHand (t : mCode) : Int32 := t.2.2.2.2.2
theorem mCode.s : (∀ (codedClauses : Int32) (codedLiterals : Int32) (wanted : Int32) (wantedSize : Int32) (kept : (Nat → Int32)) (inHand : Int32), (mCode.mk codedClauses codedLiterals wanted wantedSize kept inHand).codedClauses = codedClauses) ∧ (∀ (codedClauses : Int32) (codedLiterals : Int32) (wanted : Int32) (wantedSize : Int32) (kept : (Nat → Int32)) (inHand : Int32), (mCode.mk codedClauses codedLiterals wanted wantedSize kept inHand).codedLiterals = codedLiterals) ∧ (∀ (codedClauses : Int32) (codedLiterals : Int32) (wanted : Int32) (wantedSize : Int32) (kept : (Nat → Int32)) (inHand : Int32), (mCode.mk codedClauses codedLiterals wanted wantedSize kept inHand).wanted = wanted) ∧ (∀ (codedClauses : Int32) (codedLiterals : Int32) (wanted : Int32) (wantedSize : Int32) (kept : (Nat → Int32)) (inHand : Int32), (mCode.mk codedClauses codedLiterals wanted wantedSize kept inHand).wantedSize = wantedSize) ∧ (∀ (codedClauses : Int32) (codedLiterals : Int32) (wanted : Int32) (wantedSize : Int32) (kept : (Nat → Int32)) (inHand : Int32), (mCode.mk codedClauses codedLiterals wanted wantedSize kept inHand).kept = kept) ∧ (∀ (codedClauses : Int32) (codedLiterals : Int32) (wanted : Int32) (wantedSize : Int32) (kept : (Nat → Int32)) (inHand : Int32), (mCode.mk codedClauses codedLiterals wanted wantedSize kept inHand).inHand = inHand) := ⟨fun _ _ _ _ _ _ => rfl, fun _ _ _ _ _ _ => rfl, fun _ _ _ _ _ _ => rfl, fun _ _ _ _ _ _ => rfl, fun _ _ _ _ _ _ => rfl, fun _ _ _ _ _ _ => rfl⟩
theorem mCode.eta (t : mCode) : mCode.mk t.codedClauses t.codedLiterals t.wanted t.wantedSize t.kept t.inHand = t := rfl
def c_PC (ad : Nat → Nat) : va_W := [(ad 0, .inr (0, [.ref (ad 1), .ref (ad 11), .ref (ad 20), .ref (ad 25)]))]
def c_FO (ad : Nat → Nat) (cA : ClassId) (fo : tForm) : va_W := [(ad 1, .inr (1, [.int fo.width, .int fo.draftSize, .ref (ad 2), .ref (ad 3), .ref (ad 4), .ref (ad 5)])), (ad 2, .inl (cA, 6, .inl fo.draft)), (ad 3, .inl (cA, 2400, .inl fo.literals)), (ad 4, .inl (cA, 400, .inl fo.sizes))]
def c_FR (ad : Nat → Nat) (cA : ClassId) (fr : tRows) : va_W := [(ad 5, .inr (2, [.ref (ad 6), .ref (ad 7), .int fr.size, .int fr.oldest])), (ad 6, .inl (cA, fr.room, .inl fr.wantTrue)), (ad 7, .inl (cA, fr.room, .inl fr.wantFalse))]
def c_LR (ad : Nat → Nat) (cA : ClassId) (lr : tRows) : va_W := [(ad 8, .inr (2, [.ref (ad 9), .ref (ad 10), .int lr.size, .int lr.oldest])), (ad 9, .inl (cA, lr.room, .inl lr.wantTrue)), (ad 10, .inl (cA, lr.room, .inl lr.wantFalse))]
def c_MO (ad : Nat → Nat) (cA : ClassId) (mo : tMods) : va_W := [(ad 11, .inr (3, [.ref (ad 1), .ref (ad 13), .ref (ad 12), .int mo.size, .int mo.seenTrue, .int mo.seenFalse, .int mo.begun, .int mo.complete])), (ad 12, .inl (cA, 60, .inl mo.rows))]
def c_SE (ad : Nat → Nat) (cA : ClassId) (se : tSear) (sk : tClash) (sw : (Nat → Int32)) : va_W := [(ad 13, .inr (4, [.ref (ad 1), .ref (ad 8), .ref (ad 15), .ref (ad 14), .int se.clauses, .int sk.clashTrue, .int sk.clashFalse, .int se.ended])), (ad 14, .inl (cA, 30, .inl sw))]
def c_TR (ad : Nat → Nat) (cA : ClassId) (tr : tTrail) : va_W := [(ad 15, .inr (5, [.int tr.trues, .int tr.falses, .int tr.length, .int tr.level, .ref (ad 16), .ref (ad 17), .ref (ad 18), .ref (ad 19)])), (ad 16, .inl (cA, 30, .inl tr.order)), (ad 17, .inl (cA, 30, .inl tr.whyTrue)), (ad 18, .inl (cA, 30, .inl tr.whyFalse)), (ad 19, .inl (cA, 32, .inl tr.ahead))]
def c_TA (ad : Nat → Nat) (cA : ClassId) (ta : tTask) (tw : tWays) : va_W := [(ad 20, .inr (6, [.int ta.factCount, .int ta.actionCount, .int ta.beginning, .int ta.goal, .ref (ad 21), .ref (ad 22), .ref (ad 23), .ref (ad 24), .int tw.counted])), (ad 21, .inl (cA, 5, .inl ta.asks)), (ad 22, .inl (cA, 5, .inl ta.adds)), (ad 23, .inl (cA, 5, .inl ta.takes)), (ad 24, .inl (cA, 384, .inl tw.ways))]
def c_CO (ad : Nat → Nat) (cA : ClassId) (co : tCode) (ct : tTold) : va_W := [(ad 25, .inr (7, [.ref (ad 20), .ref (ad 26), .ref (ad 27), .int co.clauseCount, .int co.literalCount, .int ct.steps, .int ct.told])), (ad 26, .inl (cA, 982, .inl co.literals)), (ad 27, .inl (cA, 423, .inl co.starts))]
def c_RE (ad : Nat → Nat) (cA : ClassId) (ma : mForm) (mn : mKnow) (ms : mSat) (mb : mBack) (mt : mTask) (mw : (Nat → Int32)) (mg : mGo) (md : mCode) : va_W := [(ad 28, .inr (8, [.int ma.variables, .int ma.clauses, .ref (ad 29), .ref (ad 30), .ref (ad 31), .ref (ad 32), .int ma.drafted, .ref (ad 33), .int mn.isKnown, .int mn.many, .ref (ad 34), .int mt.facts, .int mt.actions, .ref (ad 35), .ref (ad 36), .ref (ad 37), .int mt.beginning, .int mt.goal, .int ms.isTrue, .int ms.isFalse, .ref (ad 38), .ref (ad 39), .ref (ad 40), .ref (ad 41), .int ms.shortest1, .int mb.backYes, .int mb.backNo, .ref (ad 42), .int mg.did, .int mg.stood, .int md.codedClauses, .int md.codedLiterals, .int md.wanted, .int md.wantedSize, .ref (ad 43), .int md.inHand])), (ad 29, .inl (cA, 2400, .inl ma.literals)), (ad 30, .inl (cA, 400, .inl ma.sizes)), (ad 31, .inl (cA, 400, .inl ma.told)), (ad 32, .inl (cA, 400, .inl ma.toldNot)), (ad 33, .inl (cA, 6, .inl ma.draft)), (ad 34, .inl (cA, 60, .inl mn.found)), (ad 35, .inl (cA, 5, .inl mt.asks)), (ad 36, .inl (cA, 5, .inl mt.adds)), (ad 37, .inl (cA, 5, .inl mt.takes)), (ad 38, .inl (cA, 32, .inl ms.keptTrue)), (ad 39, .inl (cA, 32, .inl ms.keptFalse)), (ad 40, .inl (cA, 32, .inl ms.triedTrue)), (ad 41, .inl (cA, 32, .inl ms.triedFalse)), (ad 42, .inl (cA, 384, .inl mw)), (ad 43, .inl (cA, 12, .inl md.kept))]
def q_ushr (x y : Int32) : Int32 := (x.toUInt32 >>> (y.toUInt32 &&& Int32.toUInt32 31)).toInt32
theorem q_tc7 (x : Int32) : (x.toInt < 0 ∨ 6 < x.toInt) ∨ x = 0 ∨ x = 1 ∨ x = 2 ∨ x = 3 ∨ x = 4 ∨ x = 5 ∨ x = 6 := by
  have e : ∀ k : Nat, k < 7 → x.toInt = (k : Int) → x = nI k := fun k hk h => Int32.toInt_inj.mp (by rw [h, nI_toInt (by omega)])
  by_cases h : x.toInt < 0 ∨ 6 < x.toInt
  · exact Or.inl h
  · refine Or.inr ?_
    obtain ⟨k, hk⟩ := Int.eq_ofNat_of_zero_le (show 0 ≤ x.toInt by omega)
    have hk2 : k < 7 := by omega
    have e2 := e k hk2 hk
    clear e h hk
    subst e2
    revert k
    decide +kernel
theorem q_tc22 (x : Int32) : (x.toInt < 0 ∨ 21 < x.toInt) ∨ x = 0 ∨ x = 1 ∨ x = 2 ∨ x = 3 ∨ x = 4 ∨ x = 5 ∨ x = 6 ∨ x = 7 ∨ x = 8 ∨ x = 9 ∨ x = 10 ∨ x = 11 ∨ x = 12 ∨ x = 13 ∨ x = 14 ∨ x = 15 ∨ x = 16 ∨ x = 17 ∨ x = 18 ∨ x = 19 ∨ x = 20 ∨ x = 21 := by
  have e : ∀ k : Nat, k < 22 → x.toInt = (k : Int) → x = nI k := fun k hk h => Int32.toInt_inj.mp (by rw [h, nI_toInt (by omega)])
  by_cases h : x.toInt < 0 ∨ 21 < x.toInt
  · exact Or.inl h
  · refine Or.inr ?_
    obtain ⟨k, hk⟩ := Int.eq_ofNat_of_zero_le (show 0 ≤ x.toInt by omega)
    have hk2 : k < 22 := by omega
    have e2 := e k hk2 hk
    clear e h hk
    subst e2
    revert k
    decide +kernel
