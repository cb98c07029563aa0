/-! the base: one context, one picture of the heap, a row an instruction, a row a call -/
theorem lw_good : ∀ w ∈ q_tbl, (w.onTables && w.keeps) = true ∨ ∃ ty, w = .arrayClass ty := fun _ h => good_of_word (List.mem_filter.mp h).2
def q_T (y : MethodName) (b : ByteArray) (n : Nat) (ret : Option FieldType) : List Cond := .code y b n ret :: q_tbl
theorem q_good {y : MethodName} {b : ByteArray} {n : Nat} {ret : Option FieldType} (h : Cond.code y b n ret ∈ q_tbl) : GoodIn q_tbl (q_T y b n ret) := by
  intro w hw
  rcases List.mem_cons.mp hw with rfl | hw
  · exact ⟨h, lw_good _ h⟩
  · exact ⟨hw, lw_good _ hw⟩
def q_C (p : Program) (s : State) (m : MethodId) (args : Array Value) (meth : Method) (c : Code) (cc : ByteArray) (nL : Nat) (ret : Option FieldType) (own : String) (dC : Nat → ClassId) (dI : Nat → Nat → Nat) (cA : ClassId) : Prop :=
  p.tables.exec = Jvm.exec ∧ c.code = cc ∧ c.maxLocals = nL ∧ s.vm.findClass own = some m.cls ∧ (∀ w ∈ q_tbl, w.before args s = true) ∧ va_K (dC, dI) classes [(cA, .int)] s ∧ meth.sig.returnType = ret ∧ meth.locks = false
def q_H (dC : Nat → ClassId) (dI : Nat → Nat → Nat) (A : Nat → Prop) (H0 H : Heap) (locs : List Loc) (ws : va_W) : Prop := va_P (dC, dI) classes ws H ∧ va_D A ws ∧ va_S A H0 H locs
def q_K (dC : Nat → ClassId) (dI : Nat → Nat → Nat) (cA : ClassId) (sz : Nat) (w0 : va_W) : State → Prop := fun U => U.heap.size = sz ∧ va_P (dC, dI) classes w0 U.heap ∧ va_K (dC, dI) classes [(cA, .int)] U ∧ va_D (fun _ => True) w0
def q_B (dC : Nat → ClassId) (dI : Nat → Nat → Nat) (cA : ClassId) (A : Nat → Prop) {S : Type} (w : S → va_W) : S → State → Prop := fun u t => va_P (dC, dI) classes (w u) t.heap ∧ va_K (dC, dI) classes [(cA, .int)] t ∧ va_D A (w u)
abbrev q_R (fr lo : Nat) : Room := { frames := fr, cells := 0, slots := 0, locals := lo }
def q_Mi (l : Launch) (y : MethodName) (b : ByteArray) (n : Nat) (ret : Option FieldType) (fr lo : Nat) (av : List Value) (dC : Nat → ClassId) (dI : Nat → Nat → Nat) (cA : ClassId) {S : Type} (w0 : va_W) (w : S → va_W) (sz : Nat) (post : Int32 → S → Prop) : Prop :=
  Met l y (q_T y b n ret) (q_R fr lo) (va_Pc av (q_K dC dI cA sz w0)) (va_Qi post (q_B dC dI cA (va_A w0 sz) w) (va_A w0 sz)) 0 0 (va_A w0 sz)
def q_Mv (l : Launch) (y : MethodName) (b : ByteArray) (n : Nat) (fr lo : Nat) (av : List Value) (dC : Nat → ClassId) (dI : Nat → Nat → Nat) (cA : ClassId) {S : Type} (w0 : va_W) (w : S → va_W) (sz : Nat) (post : S → Prop) : Prop :=
  Met l y (q_T y b n none) (q_R fr lo) (va_Pc av (q_K dC dI cA sz w0)) (va_Qv post (q_B dC dI cA (va_A w0 sz) w) (va_A w0 sz)) 0 0 (va_A w0 sz)
def q_Zi (below : List Frame) (args : Array Value) (s : State) (dC : Nat → ClassId) (dI : Nat → Nat → Nat) (cA : ClassId) {S : Type} (w0 : va_W) (w : S → va_W) (post : Int32 → S → Prop) : State → Prop :=
  MQ below (va_Qi post (q_B dC dI cA (va_A w0 s.heap.size) w) (va_A w0 s.heap.size)) args s 0 0 (va_A w0 s.heap.size)
def q_Zv (below : List Frame) (args : Array Value) (s : State) (dC : Nat → ClassId) (dI : Nat → Nat → Nat) (cA : ClassId) {S : Type} (w0 : va_W) (w : S → va_W) (post : S → Prop) : State → Prop :=
  MQ below (va_Qv post (q_B dC dI cA (va_A w0 s.heap.size) w) (va_A w0 s.heap.size)) args s 0 0 (va_A w0 s.heap.size)
theorem q_nA {w0 : va_W} {sz : Nat} : ∀ q : Nat, sz ≤ q → va_A w0 sz q := fun _ h => Or.inr h
theorem q_ofW {l : Launch} {y : MethodName} {ws ws' : List Cond} {rm : Room} {Pc : Array Value → State → Prop} {Qc : Array Value → State → Outcome → State → Prop} {mc ms : Nat} {free : Addr → Prop} {cc : ByteArray} {maxL : Nat} {ret : Option FieldType}
    (hy : plainFor y = true) (hw : ws = Cond.code y cc maxL ret :: ws')
    (body : ∀ p e s m args below meth c s₁, BodyLoose p l y (headSpec ws rm) cc maxL ret e s m args below meth c s₁ → c.maxLocals = maxL → Pc args s →
      W p l e (headSpec ws rm).room s m args below meth c s.heap [] 0 0 (MQ below Qc args s mc ms free) (entryFrame m args maxL)) : Met l y ws rm Pc Qc mc ms free := by
  refine MetFree.of_bodySF (code := cc) (maxLocals := maxL) (ret := ret) hy ?_ ?_
  · intro args s m h hn
    obtain ⟨meth, c, h1, h2, h3, h4, h5, h6, -, -⟩ := Cond.code_spec hn (atoms_spec (ws := ws) h _ (by rw [hw]; exact List.mem_cons_self))
    exact ⟨meth, c, h1, h2, h3, h4, h5, h6⟩
  · intro p e s m args below meth c s₁ B hml hP _
    have hh0 : s₁.heap = s.heap := by rw [B.state]; rfl
    obtain ⟨t, a1, o, b1, b2, b3⟩ := body p e s m args below meth c s₁ B hml hP s₁ hh0 (Stand.of_body B)
    exact ⟨t, o, a1, b1, b2, ⟨b3.1, b3.2⟩⟩
theorem q_meti {l : Launch} {y : MethodName} {b : ByteArray} {n : Nat} {ret : Option FieldType} {fr lo : Nat} {av : List Value} {dC : Nat → ClassId} {dI : Nat → Nat → Nat} {cA : ClassId} {S : Type} {w0 : va_W} {w : S → va_W} {sz : Nat} {post : Int32 → S → Prop}
    (hy : plainFor y = true) (hlen : (lg_sl av).length ≤ n)
    (body : ∀ {p : Program} {e : Env} {s : State} {m : MethodId} {below : List Frame} {meth : Method} {c : Code} {ls : Array Slot}, q_C p s m av.toArray meth c b n ret y.cls dC dI cA → lv_has ls n (lv_args 0 av) → q_H dC dI (va_A w0 s.heap.size) s.heap s.heap [] w0 →
      W p l e (q_R fr lo) s m av.toArray below meth c s.heap [] 0 0 (q_Zi below av.toArray s dC dI cA w0 w post) (F0 m 0 ls [])) : q_Mi l y b n ret fr lo av dC dI cA w0 w sz post := by
  refine q_ofW (cc := b) (maxL := n) (ret := ret) hy rfl ?_
  intro p e s m args below meth c s₁ B hml hv
  obtain ⟨rfl, hsz, hP, hK, hD0⟩ := hv
  have hts := atoms_spec (ws := q_T y b n ret) B.pre
  have hown := findClass_of_methodNamed B.named
  subst hsz
  have hl := lv_entry av (n := n) hlen
  rw [lg_entry_eq]
  exact body ⟨B.exec, B.bytes, hml, hown, fun w h => hts w (List.mem_cons_of_mem _ h), hK, B.returns, B.notSynchronized⟩ hl ⟨hP, hD0.self, va_S.rf⟩
theorem q_metv {l : Launch} {y : MethodName} {b : ByteArray} {n : Nat} {fr lo : Nat} {av : List Value} {dC : Nat → ClassId} {dI : Nat → Nat → Nat} {cA : ClassId} {S : Type} {w0 : va_W} {w : S → va_W} {sz : Nat} {post : S → Prop}
    (hy : plainFor y = true) (hlen : (lg_sl av).length ≤ n)
    (body : ∀ {p : Program} {e : Env} {s : State} {m : MethodId} {below : List Frame} {meth : Method} {c : Code} {ls : Array Slot}, q_C p s m av.toArray meth c b n none y.cls dC dI cA → lv_has ls n (lv_args 0 av) → q_H dC dI (va_A w0 s.heap.size) s.heap s.heap [] w0 →
      W p l e (q_R fr lo) s m av.toArray below meth c s.heap [] 0 0 (q_Zv below av.toArray s dC dI cA w0 w post) (F0 m 0 ls [])) : q_Mv l y b n fr lo av dC dI cA w0 w sz post := by
  refine q_ofW (cc := b) (maxL := n) (ret := none) hy rfl ?_
  intro p e s m args below meth c s₁ B hml hv
  obtain ⟨rfl, hsz, hP, hK, hD0⟩ := hv
  have hts := atoms_spec (ws := q_T y b n none) B.pre
  have hown := findClass_of_methodNamed B.named
  subst hsz
  have hl := lv_entry av (n := n) hlen
  rw [lg_entry_eq]
  exact body ⟨B.exec, B.bytes, hml, hown, fun w h => hts w (List.mem_cons_of_mem _ h), hK, B.returns, B.notSynchronized⟩ hl ⟨hP, hD0.self, va_S.rf⟩
section QR
variable {p : Program} {l : Launch} {e : Env} {R : Room} {s : State} {m : MethodId} {args : Array Value} {below : List Frame} {meth : Method} {c : Code} {H : Heap} {locs : List Loc} {cells slots : Nat} {Q : State → Prop}
variable {cc : ByteArray} {nL : Nat} {ret : Option FieldType} {own : String} {dC : Nat → ClassId} {dI : Nat → Nat → Nat} {cA : ClassId} {pc : Nat} {ls : Array Slot} {rest : List Value} {A : Nat → Prop} {H0 : Heap} {ws : va_W}
theorem q_hts (C0 : q_C p s m args meth c cc nL ret own dC dI cA) {w : Cond} (h : w ∈ q_tbl) : w.before args s = true := C0.2.2.2.2.1 w h
theorem q_get (C0 : q_C p s m args meth c cc nL ret own dC dI cA) (hH : q_H dC dI A H0 H locs ws) (q0 : Nat) {a ci : Nat} {fs : List Value} (he : ws[q0]? = some (a, .inr (ci, fs))) {C : String} {T : u_T} {N : Nat} (hc : classes[ci]? = some (C, T, N)) (k : Nat) (hk : k < N) {index : Nat} (hw : Cond.fieldLink own index (T k).1 (T k).2.1 (T k).2.2.1 ∈ q_tbl) {v : Value} (hv : fs[k]? = some v) (hdg : decode cc pc = .ok (.getfield index, 3))
    (kk : W p l e R s m args below meth c H locs cells slots Q (F0 m (pc + 3) ls (v :: rest))) : W p l e R s m args below meth c H locs cells slots Q (F0 m pc ls (.ref a :: rest)) :=
  va_get (D := (dC, dI)) C0.1 C0.2.1 C0.2.2.2.2.1 (q_in hc) C0.2.2.2.1 C0.2.2.2.2.2.1 hH.1 q0 he hc k hk (q_hts C0 hw) (fun _ h => h) hv hdg kk
theorem q_put (C0 : q_C p s m args meth c cc nL ret own dC dI cA) (hH : q_H dC dI A H0 H locs ws) (q0 : Nat) {a ci : Nat} {fs : List Value} (he : ws[q0]? = some (a, .inr (ci, fs))) {C : String} {T : u_T} {N : Nat} (hc : classes[ci]? = some (C, T, N)) (k : Nat) (hk : k < N) {index : Nat} (hw : Cond.fieldLink own index (T k).1 (T k).2.1 (T k).2.2.1 ∈ q_tbl) (hfin : (T k).2.2.2 = false) {ty : FieldType} {v : Value} (hd : parseFieldDescriptor (T k).2.2.1 = some ty) (hn : narrow ty v = v) (hfit : fits ty v = true) (hlen : k < fs.length) {ws' : va_W} (hws : ws.set q0 (a, .inr (ci, fs.set k v)) = ws') (hdg : decode cc pc = .ok (.putfield index, 3))
    (kk : ∀ (H1 : Heap) (locs1 : List Loc), q_H dC dI A H0 H1 locs1 ws' → W p l e R s m args below meth c H1 locs1 cells slots Q (F0 m (pc + 3) ls rest)) : W p l e R s m args below meth c H locs cells slots Q (F0 m pc ls (v :: .ref a :: rest)) := by
  obtain ⟨ty0, hty⟩ := q_ty hc
  subst hws
  exact va_put (D := (dC, dI)) C0.1 C0.2.1 C0.2.2.2.2.1 (q_in hc) ty0 hty (q_nm hc) C0.2.2.2.1 C0.2.2.2.2.2.1 hH.1 hH.2.1 hH.2.2 q0 he hc k hk (q_hts C0 hw) (fun _ h => h) hfin hd hn hfit hlen hdg (fun H1 locs1 a1 a2 a3 => kk H1 locs1 ⟨a1, a2, a3⟩)
theorem q_bool {x : Int32} (h : x = 0 ∨ x = 1) : narrow .boolean (.int x) = .int x ∧ fits .boolean (.int x) = true := by
  rcases h with rfl | rfl <;> exact ⟨by decide +kernel, by decide +kernel⟩
theorem q_dI : parseFieldDescriptor "I" = some .int := by decide +kernel
theorem q_dZ : parseFieldDescriptor "Z" = some .boolean := by decide +kernel
theorem q_puti (C0 : q_C p s m args meth c cc nL ret own dC dI cA) (hH : q_H dC dI A H0 H locs ws) (q0 : Nat) {a ci : Nat} {fs : List Value} (he : ws[q0]? = some (a, .inr (ci, fs))) {C : String} {T : u_T} {N : Nat} (hc : classes[ci]? = some (C, T, N)) (k : Nat) (hk : k < N) {index : Nat} (hw : Cond.fieldLink own index (T k).1 (T k).2.1 (T k).2.2.1 ∈ q_tbl) (hfin : (T k).2.2.2 = false) (hd : (T k).2.2.1 = "I") {v : Int32} (hlen : k < fs.length) {ws' : va_W} (hws : ws.set q0 (a, .inr (ci, fs.set k (.int v))) = ws') (hdg : decode cc pc = .ok (.putfield index, 3))
    (kk : ∀ (H1 : Heap) (locs1 : List Loc), q_H dC dI A H0 H1 locs1 ws' → W p l e R s m args below meth c H1 locs1 cells slots Q (F0 m (pc + 3) ls rest)) : W p l e R s m args below meth c H locs cells slots Q (F0 m pc ls (.int v :: .ref a :: rest)) :=
  q_put C0 hH q0 he hc k hk hw hfin (by rw [hd]; exact q_dI) rfl rfl hlen hws hdg kk
theorem q_putz (C0 : q_C p s m args meth c cc nL ret own dC dI cA) (hH : q_H dC dI A H0 H locs ws) (q0 : Nat) {a ci : Nat} {fs : List Value} (he : ws[q0]? = some (a, .inr (ci, fs))) {C : String} {T : u_T} {N : Nat} (hc : classes[ci]? = some (C, T, N)) (k : Nat) (hk : k < N) {index : Nat} (hw : Cond.fieldLink own index (T k).1 (T k).2.1 (T k).2.2.1 ∈ q_tbl) (hfin : (T k).2.2.2 = false) (hd : (T k).2.2.1 = "Z") {v : Int32} (hv : v = 0 ∨ v = 1) (hlen : k < fs.length) {ws' : va_W} (hws : ws.set q0 (a, .inr (ci, fs.set k (.int v))) = ws') (hdg : decode cc pc = .ok (.putfield index, 3))
    (kk : ∀ (H1 : Heap) (locs1 : List Loc), q_H dC dI A H0 H1 locs1 ws' → W p l e R s m args below meth c H1 locs1 cells slots Q (F0 m (pc + 3) ls rest)) : W p l e R s m args below meth c H locs cells slots Q (F0 m pc ls (.int v :: .ref a :: rest)) :=
  q_put C0 hH q0 he hc k hk hw hfin (by rw [hd]; exact q_dZ) (q_bool hv).1 (q_bool hv).2 hlen hws hdg kk
theorem q_ald (C0 : q_C p s m args meth c cc nL ret own dC dI cA) (hH : q_H dC dI A H0 H locs ws) (q0 : Nat) {a n : Nat} {f : Nat → Int32} (ha : ws[q0]? = some (a, .inl (cA, n, .inl f))) {i : Int32} (hin : vp_in i n) (hdg : decode cc pc = .ok (.iaload, 1))
    (kk : W p l e R s m args below meth c H locs cells slots Q (F0 m (pc + 1) ls (.int (f i.toNatClampNeg) :: rest))) : W p l e R s m args below meth c H locs cells slots Q (F0 m pc ls (.int i :: .ref a :: rest)) :=
  va_iald (D := (dC, dI)) C0.1 C0.2.1 C0.2.2.2.2.2.1 hH.1 q0 0 ha rfl hin hdg kk
theorem q_ast (C0 : q_C p s m args meth c cc nL ret own dC dI cA) (hH : q_H dC dI A H0 H locs ws) (q0 : Nat) {a n : Nat} {f : Nat → Int32} (ha : ws[q0]? = some (a, .inl (cA, n, .inl f))) {i x : Int32} (hin : vp_in i n) {ws' : va_W} (hws : ws.set q0 (a, .inl (cA, n, .inl (upd f i.toNatClampNeg x))) = ws') (hdg : decode cc pc = .ok (.iastore, 1))
    (kk : ∀ (H1 : Heap) (locs1 : List Loc), q_H dC dI A H0 H1 locs1 ws' → W p l e R s m args below meth c H1 locs1 cells slots Q (F0 m (pc + 1) ls rest)) : W p l e R s m args below meth c H locs cells slots Q (F0 m pc ls (.int x :: .int i :: .ref a :: rest)) := by
  subst hws
  exact va_iast (D := (dC, dI)) C0.1 C0.2.1 C0.2.2.2.2.2.1 hH.1 hH.2.1 hH.2.2 q0 0 ha rfl hin hdg (fun H1 locs1 a1 a2 a3 => kk H1 locs1 ⟨a1, a2, a3⟩)
theorem q_alen (C0 : q_C p s m args meth c cc nL ret own dC dI cA) (hH : q_H dC dI A H0 H locs ws) (q0 : Nat) {a n : Nat} {f : Nat → Int32} (ha : ws[q0]? = some (a, .inl (cA, n, .inl f))) (hdg : decode cc pc = .ok (.arraylength, 1))
    (kk : W p l e R s m args below meth c H locs cells slots Q (F0 m (pc + 1) ls (.int (nI n) :: rest))) : W p l e R s m args below meth c H locs cells slots Q (F0 m pc ls (.ref a :: rest)) :=
  va_alen (D := (dC, dI)) C0.1 C0.2.1 C0.2.2.2.2.2.1 hH.1 q0 0 ha rfl rfl hdg kk
theorem q_reti {S : Type} {w0 : va_W} {w : S → va_W} {post : Int32 → S → Prop} (C0 : q_C p s m args meth c cc nL (some .int) own dC dI cA) {ws : va_W} (hH : q_H dC dI (va_A w0 s.heap.size) s.heap H locs ws) (u : S) (hw : ws = w u) {v : Int32} (h : post v u) (hdg : decode cc pc = .ok (.ireturn, 1)) :
    W p l e R s m args below meth c H locs 0 0 (q_Zi below args s dC dI cA w0 w post) (F0 m pc ls [.int v]) := by
  subst hw
  exact W.iret (v := v) C0.1 C0.2.1 C0.2.2.2.2.2.2.1 (fun t ht hW => ⟨⟨v, u, rfl, h, by rw [ht]; exact hH.1, va_K.moved hW.alike C0.2.2.2.2.2.1, hH.2.1⟩, hH.2.2.F ht⟩) hH.2.2.2.2 hdg C0.2.2.2.2.2.2.2
theorem q_retz {S : Type} {w0 : va_W} {w : S → va_W} {post : Int32 → S → Prop} (C0 : q_C p s m args meth c cc nL (some .boolean) own dC dI cA) {ws : va_W} (hH : q_H dC dI (va_A w0 s.heap.size) s.heap H locs ws) (u : S) (hw : ws = w u) {v : Int32} (hv : v = 0 ∨ v = 1) (h : post v u) (hdg : decode cc pc = .ok (.ireturn, 1)) :
    W p l e R s m args below meth c H locs 0 0 (q_Zi below args s dC dI cA w0 w post) (F0 m pc ls [.int v]) := by
  subst hw
  exact W.zret (v := v) C0.1 C0.2.1 C0.2.2.2.2.2.2.1 (q_bool hv).1 (fun t ht hW => ⟨⟨v, u, rfl, h, by rw [ht]; exact hH.1, va_K.moved hW.alike C0.2.2.2.2.2.1, hH.2.1⟩, hH.2.2.F ht⟩) hH.2.2.2.2 hdg C0.2.2.2.2.2.2.2
theorem q_retv {S : Type} {w0 : va_W} {w : S → va_W} {post : S → Prop} (C0 : q_C p s m args meth c cc nL none own dC dI cA) {ws : va_W} (hH : q_H dC dI (va_A w0 s.heap.size) s.heap H locs ws) (u : S) (hw : ws = w u) (h : post u) (hdg : decode cc pc = .ok (.return_, 1)) :
    W p l e R s m args below meth c H locs 0 0 (q_Zv below args s dC dI cA w0 w post) (F0 m pc ls []) := by
  subst hw
  exact W.vret C0.1 C0.2.1 C0.2.2.2.2.2.2.1 (fun t ht hW => ⟨⟨u, rfl, h, by rw [ht]; exact hH.1, va_K.moved hW.alike C0.2.2.2.2.2.1, hH.2.1⟩, hH.2.2.F ht⟩) hH.2.2.2.2 hdg C0.2.2.2.2.2.2.2
/-- what the tables say of a method of an object, and of a static one -/
def q_Y (y : MethodName) (b : ByteArray) (n : Nat) (ret : Option FieldType) (k : Nat) : Prop :=
  Cond.code y b n ret ∈ q_tbl ∧ Cond.instanceMethod y ∈ q_tbl ∧ Cond.selects y.cls y y ∈ q_tbl ∧ Cond.initialized y.cls ∈ q_tbl ∧ y.cls ≠ "java/lang/invoke/MethodHandle" ∧ y.cls ≠ "java/lang/invoke/VarHandle" ∧ (parseMethodDescriptor y.desc).map (fun d => d.parameters.length) = some k
def q_YS (y : MethodName) (b : ByteArray) (n : Nat) (ret : Option FieldType) (k : Nat) : Prop :=
  Cond.code y b n ret ∈ q_tbl ∧ Cond.static y ∈ q_tbl ∧ Cond.initialized y.cls ∈ q_tbl ∧ y.cls ≠ "java/lang/invoke/MethodHandle" ∧ y.cls ≠ "java/lang/invoke/VarHandle" ∧ (parseMethodDescriptor y.desc).map (fun d => d.parameters.length) = some k
theorem q_cwV {y : MethodName} {b : ByteArray} {n fr lo : Nat} {r : Option FieldType} {k index : Nat} (C0 : q_C p s m args meth c cc nL ret own dC dI cA) (hY : q_Y y b n r k) (hl : Cond.methodLink own index y ∈ q_tbl) (hR : fr + 1 ≤ R.frames ∧ 8 + (n + 11) + lo ≤ R.locals) :
    CallW R s args own y.cls index y b n r (q_T y b n r) (q_R fr lo) 0 0 k := by
  refine cwV k C0.2.2.2.2.1 ?_ rfl rfl rfl ⟨rfl, hY.2.2.2.2⟩ hR
  intro w hw
  rcases List.mem_append.mp hw with h | h
  · simp only [List.mem_cons, List.not_mem_nil, or_false] at h
    rcases h with rfl | rfl | rfl | rfl
    · exact ⟨hl, lw_good _ hl⟩
    · exact ⟨hY.2.1, lw_good _ hY.2.1⟩
    · exact ⟨hY.2.2.1, lw_good _ hY.2.2.1⟩
    · exact ⟨hY.2.2.2.1, lw_good _ hY.2.2.2.1⟩
  · exact q_good hY.1 w h
theorem q_cwS {y : MethodName} {b : ByteArray} {n fr lo : Nat} {r : Option FieldType} {k index : Nat} (C0 : q_C p s m args meth c cc nL ret own dC dI cA) (hY : q_YS y b n r k) (hl : Cond.methodLink own index y ∈ q_tbl) (hR : fr + 1 ≤ R.frames ∧ 8 + (n + 11) + lo ≤ R.locals) :
    CallB R s args own index y b n r (q_T y b n r) (q_R fr lo) 0 0 k ∧ (Cond.static y).before args s = true := by
  refine va_cwS k C0.2.2.2.2.1 ?_ rfl rfl rfl hY.2.2.2 hR
  intro w hw
  rcases List.mem_append.mp hw with h | h
  · simp only [List.mem_cons, List.not_mem_nil, or_false] at h
    rcases h with rfl | rfl | rfl
    · exact ⟨hl, lw_good _ hl⟩
    · exact ⟨hY.2.1, lw_good _ hY.2.1⟩
    · exact ⟨hY.2.2.1, lw_good _ hY.2.2.1⟩
  · exact q_good hY.1 w h
theorem q_blind {dC : Nat → ClassId} {dI : Nat → Nat → Nat} {cA : ClassId} {av : List Value} {sz : Nat} {w0 : va_W} : FrameBlind (va_Pc av (q_K dC dI cA sz w0)) := fun a U g mk q => by
  obtain ⟨q0, q1, qP, qK, qD⟩ := q
  exact ⟨q0, q1, qP, va_K.moved (u := U) (U := U.calling g mk a) (Vm.Alike.refl U.vm) qK, qD⟩
/-- which cells of the caller the method called has, and how they stand behind the call -/
def q_Pl {S : Type} (ws w0 : va_W) (w ws' : S → va_W) : Prop := ∃ wr : va_W, List.Perm ws (w0 ++ wr) ∧ ∀ u, List.Perm (wr ++ w u) (ws' u)
theorem q_fmr {α : Type} : ∀ (l : List α) (n : Nat), l.length = n → (List.range n).filterMap (fun i => l[i]?) = l := by
  intro l n h
  subst h
  induction l with
  | nil => rfl
  | cons a l ih =>
    rw [List.length_cons, List.range_succ_eq_map, List.filterMap_cons]
    simp only [List.getElem?_cons_zero, List.filterMap_map, Function.comp_def, Nat.succ_eq_add_one, List.getElem?_cons_succ]
    rw [ih]
theorem q_pg {S : Type} {gs g0 : List va_W} {gw gs' : S → List va_W} (isC isR is : List Nat) (n m : Nat) (hn : gs.length = n) (h1 : List.Perm (isC ++ isR) (List.range n)) (h2 : isC.filterMap (fun i => gs[i]?) = g0) (h3 : ∀ u, (gw u).length = m) (hr : (isR.filterMap (fun i => gs[i]?)).length = isR.length) (h4 : List.Perm is (List.range (isR.length + m))) (h5 : ∀ u, is.filterMap (fun i => (isR.filterMap (fun i => gs[i]?) ++ gw u)[i]?) = gs' u) :
    q_Pl gs.flatten g0.flatten (fun u => (gw u).flatten) (fun u => (gs' u).flatten) := by
  refine ⟨(isR.filterMap (fun i => gs[i]?)).flatten, ?_, fun u => ?_⟩
  · have h := (h1.filterMap (fun i => gs[i]?)).flatten
    rw [q_fmr gs n hn, List.filterMap_append, List.flatten_append, h2] at h
    exact h.symm
  · have h := (h4.filterMap (fun i => (isR.filterMap (fun i => gs[i]?) ++ gw u)[i]?)).flatten
    rw [q_fmr _ _ (by rw [List.length_append, hr, h3]), h5 u, List.flatten_append] at h
    exact h.symm
theorem q_pc {S : Type} {ws w0 : va_W} {w : S → va_W} (isC isR : List Nat) (n : Nat) (hn : ws.length = n) (h1 : List.Perm (isC ++ isR) (List.range n)) (h2 : isC.filterMap (fun i => ws[i]?) = w0) :
    q_Pl ws w0 w (fun u => isR.filterMap (fun i => ws[i]?) ++ w u) := by
  refine ⟨isR.filterMap (fun i => ws[i]?), ?_, fun u => List.Perm.refl _⟩
  have h := h1.filterMap (fun i => ws[i]?)
  rw [q_fmr ws n hn, List.filterMap_append, h2] at h
  exact h.symm
theorem q_Pmem {D : va_G} {cl : List vw_C} {w1 : va_W} {G : Heap} : va_P D cl w1 G ↔ ∀ q ∈ w1, va_at D cl q G :=
  ⟨fun h q hq => by obtain ⟨k, hk⟩ := List.mem_iff_getElem?.mp hq; exact h k q hk, fun h k q hk => h q (List.mem_of_getElem? hk)⟩
theorem q_Dmem {B : Nat → Prop} {w1 : va_W} : va_D B w1 ↔ w1.Pairwise (fun p q => p.1 ≠ q.1) ∧ ∀ q ∈ w1, B q.1 := by
  constructor
  · intro h
    refine ⟨List.pairwise_iff_getElem.mpr (fun i j hi hj hij e => ?_), fun q hq => by obtain ⟨k, hk⟩ := List.mem_iff_getElem?.mp hq; exact h.2 k q hk⟩
    have := h.1 i j _ _ (List.getElem?_eq_getElem hi) (List.getElem?_eq_getElem hj) e
    omega
  · intro h
    refine ⟨fun i j p q hi hj e => ?_, fun k q hk => h.2 q (List.mem_of_getElem? hk)⟩
    obtain ⟨hi1, hi2⟩ := List.getElem?_eq_some_iff.mp hi
    obtain ⟨hj1, hj2⟩ := List.getElem?_eq_some_iff.mp hj
    have hp := List.pairwise_iff_getElem.mp h.1
    rcases Nat.lt_trichotomy i j with q1 | q1 | q1
    · exact absurd (by rw [hi2, hj2]; exact e) (hp i j hi1 hj1 q1)
    · exact q1
    · exact absurd (by rw [hi2, hj2]; exact e.symm) (hp j i hj1 hi1 q1)
theorem q_Pperm {D : va_G} {cl : List vw_C} {w1 w2 : va_W} {G : Heap} (h : va_P D cl w1 G) (hp : List.Perm w1 w2) : va_P D cl w2 G := q_Pmem.mpr (fun q hq => q_Pmem.mp h q (hp.mem_iff.mpr hq))
theorem q_Dperm {B : Nat → Prop} {w1 w2 : va_W} (h : va_D B w1) (hp : List.Perm w1 w2) : va_D B w2 :=
  q_Dmem.mpr ⟨(hp.pairwise_iff (fun {_ _} h => Ne.symm h)).mp (q_Dmem.mp h).1, fun q hq => (q_Dmem.mp h).2 q (hp.mem_iff.mpr hq)⟩
theorem q_Psub {D : va_G} {cl : List vw_C} {w1 w2 : va_W} {G : Heap} (h : va_P D cl w1 G) {is : List Nat} (hs : is.map (fun i => w1[i]?) = w2.map some) : va_P D cl w2 G := by
  intro j q hq
  have h1 : (w2.map some)[j]? = some (some q) := by rw [List.getElem?_map, hq]; rfl
  rw [← hs, List.getElem?_map] at h1
  cases hi : is[j]? with
  | none => rw [hi] at h1; cases h1
  | some i => rw [hi] at h1; exact h i q (Option.some.inj h1)
/-- the method's own cells, as the caller has them -/
theorem q_cut {w0 wr : va_W} (hH : q_H dC dI A H0 H locs ws) (hA : ∀ q, H0.size ≤ q → A q) (hp : List.Perm ws (w0 ++ wr)) : va_P (dC, dI) classes w0 H ∧ va_D (fun _ => True) w0 ∧ (∀ q, va_A w0 H.size q → A q) := by
  have hP := q_Pmem.mp (q_Pperm hH.1 hp)
  have hD := q_Dmem.mp (q_Dperm hH.2.1 hp)
  refine ⟨q_Pmem.mpr (fun q hq => hP q (List.mem_append_left _ hq)), q_Dmem.mpr ⟨(List.pairwise_append.mp hD.1).1, fun _ _ => trivial⟩, fun q h => ?_⟩
  rcases h with ⟨k, e, h⟩ | h
  · exact hD.2 (q, e) (List.mem_append_left _ (List.mem_of_getElem? h))
  · exact hA q (Nat.le_trans hH.2.2.1 h)
/-- the caller's picture behind a call -/
theorem q_after {S : Type} {w0 : va_W} {w ws' : S → va_W} {H1 : Heap} {locs1 : List Loc} (hH : q_H dC dI A H0 H locs ws) (hA : ∀ q, H0.size ≤ q → A q) (hl : q_Pl ws w0 w ws') {u : S} {t : State}
    (ht : t.heap = H1) (hB : q_B dC dI cA (va_A w0 H.size) w u t) (hk1 : ∀ q : Nat, q < H.size → ¬ va_A w0 H.size q → H1[q]? = H[q]?) (hS : va_S A H0 H1 locs1) : q_H dC dI A H0 H1 locs1 (ws' u) := by
  obtain ⟨hP1, hK1, hD1⟩ := hB
  obtain ⟨wr, hp1, hp2⟩ := hl
  rw [ht] at hP1
  obtain ⟨-, -, hF⟩ := q_cut hH hA hp1
  have hP := q_Pmem.mp (q_Pperm hH.1 hp1)
  have hD := q_Dmem.mp (q_Dperm hH.2.1 hp1)
  obtain ⟨-, hDr, hDx⟩ := List.pairwise_append.mp hD.1
  have hD1' := q_Dmem.mp hD1
  have apart : ∀ x ∈ wr, x.1 < H.size ∧ ¬ va_A w0 H.size x.1 := by
    intro x hx
    have hlt := (hP x (List.mem_append_right _ hx)).lt
    refine ⟨hlt, fun h => ?_⟩
    rcases h with ⟨k, e, h⟩ | h
    · exact hDx (x.1, e) (List.mem_of_getElem? h) x hx rfl
    · omega
  refine ⟨q_Pperm (q_Pmem.mpr (fun q hq => ?_)) (hp2 u), q_Dperm (q_Dmem.mpr ⟨List.pairwise_append.mpr ⟨hDr, hD1'.1, fun x hx y hy e => ?_⟩, fun q hq => ?_⟩) (hp2 u), hS⟩
  · rcases List.mem_append.mp hq with h | h
    · exact (hP q (List.mem_append_right _ h)).kept (hk1 q.1 (apart q h).1 (apart q h).2)
    · exact q_Pmem.mp hP1 q h
  · exact (apart x hx).2 (by rw [e]; exact hD1'.2 y hy)
  · rcases List.mem_append.mp hq with h | h
    · exact hD.2 q (List.mem_append_right _ h)
    · exact hF q.1 (hD1'.2 q h)
theorem q_calli {S : Type} {y : MethodName} {b : ByteArray} {n fr lo k index : Nat} {r : Option FieldType} {a : Nat} {As : List Value} {w0 : va_W} {w ws' : S → va_W} {post : Int32 → S → Prop} {st0 : List Value} 
    (C0 : q_C p s m args meth c cc nL ret own dC dI cA) (hH : q_H dC dI A H0 H locs ws) (hA : ∀ q, H0.size ≤ q → A q) (hM : q_Mi l y b n r fr lo (.ref a :: As) dC dI cA w0 w H.size post) (hY : q_Y y b n r k) (hl : Cond.methodLink own index y ∈ q_tbl)
    (q0 : Nat) {ci : Nat} {fs : List Value} (he : ws[q0]? = some (a, .inr (ci, fs))) {T : u_T} {N : Nat} (hc : classes[ci]? = some (y.cls, T, N)) (hp : q_Pl ws w0 w ws')
    (hr : fr + 1 ≤ R.frames ∧ 8 + (n + 11) + lo ≤ R.locals) (hk : As.length = k) (hst : st0 = As.reverse ++ .ref a :: rest) (hW : (rest.map fun v => v.category).sum ≤ 8) (hz : ls.size = nL) (hdg : decode cc pc = .ok (.invokevirtual index, 3)) (hf : cells ≤ R.cells ∧ slots ≤ R.slots)
    (kk : ∀ (v : Int32) (u : S) (H1 : Heap) (locs1 : List Loc), post v u → q_H dC dI A H0 H1 locs1 (ws' u) → W p l e R s m args below meth c H1 locs1 cells slots Q (F0 m (pc + 3) ls (.int v :: rest))) : W p l e R s m args below meth c H locs cells slots Q (F0 m pc ls st0) := by
  subst hst
  obtain ⟨wr, hpe, -⟩ := id hp
  obtain ⟨hP0, hD0, hFc⟩ := q_cut hH hA hpe
  have hrun : va_Run p l e R s m args below meth c H locs cells slots 0 0 (F0 m pc ls (As.reverse ++ .ref a :: rest)) rest (va_Qi post (q_B dC dI cA (va_A w0 H.size) w) (va_A w0 H.size) (Value.ref a :: As).toArray) (va_A w0 H.size) :=
    va_runV (As := As) (rest := rest) ⟨C0.1, C0.2.1, C0.2.2.1, C0.2.2.2.1, C0.2.2.2.2.1⟩ hM (q_cwV C0 hY hl hr) ⟨q_blind, va_recv C0.2.2.2.2.2.1 hH.1 (q0 := q0) hc he, fun U hU hW => ⟨rfl, by rw [hU], by rw [hU]; exact hP0, va_K.moved hW.alike C0.2.2.2.2.2.1, hD0⟩⟩ rfl hk hz rfl (lv_room hW) hdg hf
  refine va_calli hrun hH.2.2 (fun q _ h => hFc q h) hFc (fun v u t H1 locs1 ht hvm hpo hB hz1 hk1 hS => ?_)
  exact kk v u H1 locs1 hpo (q_after hH hA hp ht hB hk1 hS)
theorem q_callv {S : Type} {y : MethodName} {b : ByteArray} {n fr lo k index : Nat} {a : Nat} {As : List Value} {w0 : va_W} {w ws' : S → va_W} {post : S → Prop} {st0 : List Value} 
    (C0 : q_C p s m args meth c cc nL ret own dC dI cA) (hH : q_H dC dI A H0 H locs ws) (hA : ∀ q, H0.size ≤ q → A q) (hM : q_Mv l y b n fr lo (.ref a :: As) dC dI cA w0 w H.size post) (hY : q_Y y b n none k) (hl : Cond.methodLink own index y ∈ q_tbl)
    (q0 : Nat) {ci : Nat} {fs : List Value} (he : ws[q0]? = some (a, .inr (ci, fs))) {T : u_T} {N : Nat} (hc : classes[ci]? = some (y.cls, T, N)) (hp : q_Pl ws w0 w ws')
    (hr : fr + 1 ≤ R.frames ∧ 8 + (n + 11) + lo ≤ R.locals) (hk : As.length = k) (hst : st0 = As.reverse ++ .ref a :: rest) (hW : (rest.map fun v => v.category).sum ≤ 8) (hz : ls.size = nL) (hdg : decode cc pc = .ok (.invokevirtual index, 3)) (hf : cells ≤ R.cells ∧ slots ≤ R.slots)
    (kk : ∀ (u : S) (H1 : Heap) (locs1 : List Loc), post u → q_H dC dI A H0 H1 locs1 (ws' u) → W p l e R s m args below meth c H1 locs1 cells slots Q (F0 m (pc + 3) ls rest)) : W p l e R s m args below meth c H locs cells slots Q (F0 m pc ls st0) := by
  subst hst
  obtain ⟨wr, hpe, -⟩ := id hp
  obtain ⟨hP0, hD0, hFc⟩ := q_cut hH hA hpe
  have hrun : va_Run p l e R s m args below meth c H locs cells slots 0 0 (F0 m pc ls (As.reverse ++ .ref a :: rest)) rest (va_Qv post (q_B dC dI cA (va_A w0 H.size) w) (va_A w0 H.size) (Value.ref a :: As).toArray) (va_A w0 H.size) :=
    va_runV (As := As) (rest := rest) ⟨C0.1, C0.2.1, C0.2.2.1, C0.2.2.2.1, C0.2.2.2.2.1⟩ hM (q_cwV C0 hY hl hr) ⟨q_blind, va_recv C0.2.2.2.2.2.1 hH.1 (q0 := q0) hc he, fun U hU hW => ⟨rfl, by rw [hU], by rw [hU]; exact hP0, va_K.moved hW.alike C0.2.2.2.2.2.1, hD0⟩⟩ rfl hk hz rfl (lv_room hW) hdg hf
  refine va_callv hrun hH.2.2 (fun q _ h => hFc q h) hFc (fun u t H1 locs1 ht hvm hpo hB hz1 hk1 hS => ?_)
  exact kk u H1 locs1 hpo (q_after hH hA hp ht hB hk1 hS)
/-- a static method that has no cells -/
theorem q_calls {y : MethodName} {b : ByteArray} {n fr lo k index : Nat} {r : Option FieldType} {As : List Value} {post : Int32 → Unit → Prop} {st0 : List Value}
    (C0 : q_C p s m args meth c cc nL ret own dC dI cA) (hH : q_H dC dI A H0 H locs ws) (hA : ∀ q, H0.size ≤ q → A q) (hM : q_Mi l y b n r fr lo As dC dI cA [] (fun _ : Unit => []) H.size post) (hY : q_YS y b n r k) (hl : Cond.methodLink own index y ∈ q_tbl)
    (hr : fr + 1 ≤ R.frames ∧ 8 + (n + 11) + lo ≤ R.locals) (hk : As.length = k) (hst : st0 = As.reverse ++ rest) (hW : (rest.map fun v => v.category).sum ≤ 8) (hz : ls.size = nL) (hdg : decode cc pc = .ok (.invokestatic index, 3)) (hf : cells ≤ R.cells ∧ slots ≤ R.slots)
    (kk : ∀ (v : Int32) (H1 : Heap) (locs1 : List Loc), post v () → q_H dC dI A H0 H1 locs1 ws → W p l e R s m args below meth c H1 locs1 cells slots Q (F0 m (pc + 3) ls (.int v :: rest))) : W p l e R s m args below meth c H locs cells slots Q (F0 m pc ls st0) := by
  subst hst
  have hFc : ∀ q, va_A [] H.size q → A q := va_free (wc := []) hH.2.1 hH.2.2 hA [] rfl
  have hrun : va_Run p l e R s m args below meth c H locs cells slots 0 0 (F0 m pc ls (As.reverse ++ rest)) rest (va_Qi post (q_B dC dI cA (va_A [] H.size) (fun _ : Unit => [])) (va_A [] H.size) As.toArray) (va_A [] H.size) :=
    va_runS (As := As) (rest := rest) ⟨C0.1, C0.2.1, C0.2.2.1, C0.2.2.2.1, C0.2.2.2.2.1⟩ hM (q_cwS C0 hY hl hr) ⟨q_blind, fun U hU hW => ⟨rfl, by rw [hU], fun j q hq => by simp at hq, va_K.moved hW.alike C0.2.2.2.2.2.1, ⟨fun i j x z hx => by simp at hx, fun _ _ _ => trivial⟩⟩⟩ rfl hk hz rfl (lv_room hW) hdg hf
  refine va_calli hrun hH.2.2 (fun q _ h => hFc q h) hFc (fun v u t H1 locs1 ht hvm hpo hB hz1 hk1 hS => ?_)
  refine kk v H1 locs1 hpo ⟨fun k q hq => (hH.1 k q hq).kept (hk1 q.1 ((hH.1 k q hq).lt) ?_), hH.2.1, hS⟩
  intro h
  rcases h with ⟨_, _, h⟩ | h
  · simp at h
  · exact Nat.lt_irrefl _ (Nat.lt_of_lt_of_le ((hH.1 k q hq).lt) h)
end QR
