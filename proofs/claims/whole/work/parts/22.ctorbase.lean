/-! the rows of the methods that make cells -/
def q_nest (U : State) : Prop := va_Nw (.methodLinkNest "PlanClauses" 11 ⟨"PlanClauses$Formula", "<init>", "()V"⟩ "PlanClauses") U ∧ va_Nw (.methodLinkNest "PlanClauses$Search" 22 ⟨"PlanClauses$Trail", "<init>", "()V"⟩ "PlanClauses") U ∧ va_Nw (.methodLinkNest "PlanClauses" 27 ⟨"PlanClauses$Task", "<init>", "()V"⟩ "PlanClauses") U
theorem q_nest.warm {s U : State} (hW : s.WarmedH U.vm) (h : q_nest s) : q_nest U := ⟨va_Nw.warmM hW h.1, va_Nw.warmM hW h.2.1, va_Nw.warmM hW h.2.2⟩
theorem q_nest.same {u U : State} (h : u.vm = U.vm) (hz : q_nest u) : q_nest U := ⟨va_Nw.same rfl h hz.1, va_Nw.same rfl h hz.2.1, va_Nw.same rfl h hz.2.2⟩
def q_Kc (dC : Nat → ClassId) (dI : Nat → Nat → Nat) (cA : ClassId) (sz : Nat) (w0 : va_W) : State → Prop := fun U => q_K dC dI cA sz w0 U ∧ q_nest U
abbrev q_Rc (fr lo mc ms : Nat) : Room := { frames := fr, cells := mc, slots := ms, locals := lo }
def q_Mc (l : Launch) (y : MethodName) (b : ByteArray) (n mc ms fr lo : Nat) (av : List Value) (dC : Nat → ClassId) (dI : Nat → Nat → Nat) (cA : ClassId) {S : Type} (w0 : va_W) (w : S → va_W) (sz : Nat) (post : S → Prop) : Prop :=
  Met l y (q_T y b n none) (q_Rc fr lo mc ms) (va_Pc av (q_Kc dC dI cA sz w0)) (va_Qv post (q_B dC dI cA (va_A w0 sz) w) (va_A w0 sz)) mc ms (va_A w0 sz)
def q_Zc (below : List Frame) (args : Array Value) (s : State) (dC : Nat → ClassId) (dI : Nat → Nat → Nat) (cA : ClassId) (mc ms : Nat) {S : Type} (w0 : va_W) (w : S → va_W) (post : S → Prop) : State → Prop :=
  MQ below (va_Qv post (q_B dC dI cA (va_A w0 s.heap.size) w) (va_A w0 s.heap.size)) args s mc ms (va_A w0 s.heap.size)
theorem q_metc {l : Launch} {y : MethodName} {b : ByteArray} {n mc ms fr lo : Nat} {av : List Value} {dC : Nat → ClassId} {dI : Nat → Nat → Nat} {cA : ClassId} {S : Type} {w0 : va_W} {w : S → va_W} {sz : Nat} {post : S → Prop}
    (hy : plainFor y = true) (hlen : (lg_sl av).length ≤ n)
    (body : ∀ {p : Program} {e : Env} {s : State} {m : MethodId} {below : List Frame} {meth : Method} {c : Code} {ls : Array Slot}, q_C p s m av.toArray meth c b n none y.cls dC dI cA → meth.name = y.name → q_nest s → lv_has ls n (lv_args 0 av) → q_H dC dI (va_A w0 s.heap.size) s.heap s.heap [] w0 →
      W p l e (q_Rc fr lo mc ms) s m av.toArray below meth c s.heap [] 0 0 (q_Zc below av.toArray s dC dI cA mc ms w0 w post) (F0 m 0 ls [])) : q_Mc l y b n mc ms fr lo av dC dI cA w0 w sz post := by
  refine q_ofW (cc := b) (maxL := n) (ret := none) hy rfl ?_
  intro p e s m args below meth c s₁ B hml hv
  obtain ⟨rfl, ⟨hsz, hP, hK, hD0⟩, hne⟩ := hv
  have hts := atoms_spec (ws := q_T y b n none) B.pre
  have hown := findClass_of_methodNamed B.named
  subst hsz
  have hl := lv_entry av (n := n) hlen
  rw [lg_entry_eq]
  exact body ⟨B.exec, B.bytes, hml, hown, fun w h => hts w (List.mem_cons_of_mem _ h), hK, B.returns, B.notSynchronized⟩ (name_of_methodNamed B.named B.method).1 hne hl ⟨hP, hD0.self, va_S.rf⟩
section QRC
variable {p : Program} {l : Launch} {e : Env} {R : Room} {s : State} {m : MethodId} {args : Array Value} {below : List Frame} {meth : Method} {c : Code} {H : Heap} {locs : List Loc} {cells slots : Nat} {Q : State → Prop}
variable {cc : ByteArray} {nL : Nat} {ret : Option FieldType} {own : String} {dC : Nat → ClassId} {dI : Nat → Nat → Nat} {cA : ClassId} {pc : Nat} {ls : Array Slot} {rest : List Value} {A : Nat → Prop} {H0 : Heap} {ws : va_W}
theorem q_retc {S : Type} {w0 : va_W} {w : S → va_W} {post : S → Prop} (C0 : q_C p s m args meth c cc nL none own dC dI cA) {ws : va_W} (hH : q_H dC dI (va_A w0 s.heap.size) s.heap H locs ws) (u : S) (hw : ws = w u) (h : post u) (hdg : decode cc pc = .ok (.return_, 1)) :
    W p l e R s m args below meth c H locs cells slots (q_Zc below args s dC dI cA cells slots w0 w post) (F0 m pc ls []) := by
  subst hw
  exact W.vret C0.1 C0.2.1 C0.2.2.2.2.2.2.1 (fun t ht hW => ⟨⟨u, rfl, h, by rw [ht]; exact hH.1, va_K.moved hW.alike C0.2.2.2.2.2.1, hH.2.1⟩, hH.2.2.F ht⟩) hH.2.2.2.2 hdg C0.2.2.2.2.2.2.2
theorem q_obj (C0 : q_C p s m args meth c cc nL ret own dC dI cA) {idx : Nat} (hl : Cond.methodLink own idx ⟨"java/lang/Object", "<init>", "()V"⟩ ∈ q_tbl) {a : Nat} (hz : ls.size = nL) (hdg : decode cc pc = .ok (.invokespecial idx, 3)) (hf : 1 ≤ R.frames) (hlo : 12 ≤ R.locals)
    (kk : W p l e R s m args below meth c H locs cells slots Q (F0 m (pc + 3) ls [])) : W p l e R s m args below meth c H locs cells slots Q (F0 m pc ls [.ref a]) :=
  W.objInit (rest := []) C0.1 C0.2.1 C0.2.2.2.1 (q_hts C0 hl) (q_hts C0 k_18) (q_hts C0 k_19) rfl (by rw [C0.2.2.1]; exact hz) rfl hdg hf (by simpa using hlo) kk
theorem q_newi (C0 : q_C p s m args meth c cc nL ret own dC dI cA) (hH : q_H dC dI A H0 H locs ws) (hA : ∀ q, H0.size ≤ q → A q) {n : Int32} (N : Nat) (hn : ¬ n < 0) (hN : n.toNatClampNeg = N) (hbytes : N * 4 ≤ 536870912) (hcells : cells + 1 ≤ R.cells) (hslots : slots + N ≤ R.slots) (hdg : decode cc pc = .ok (.newarray .int, 2))
    (kk : ∀ (q : Nat) (H1 : Heap), q_H dC dI A H0 H1 locs (ws ++ [(q, .inl (cA, N, .inl (fun _ => 0)))]) → W p l e R s m args below meth c H1 locs (cells + 1) (slots + N) Q (F0 m (pc + 2) ls (.ref q :: rest))) : W p l e R s m args below meth c H locs cells slots Q (F0 m pc ls (.int n :: rest)) := by
  refine va_newa (atype := .int) (ty := .int) C0.1 C0.2.1 (q_hts C0 k_51) rfl C0.2.2.2.2.2.1 hH.1 hH.2.1 hH.2.2 hA (a0 := (N, .inl (fun _ => 0))) (N' := N) (fun _ => rfl) hn hN hbytes hcells hslots hdg (fun q c2 H1 hK hP hD hS => ?_)
  have e1 : c2 = cA := Option.some.inj (((hK.2 1 _ rfl).2 : s.vm.findClass _ = some c2).symm.trans ((hK.2 0 _ rfl).2 : s.vm.findClass _ = some cA))
  subst e1
  exact kk q H1 ⟨hP, hD, hS⟩
theorem q_fs {N : Nat} {ty : Nat → FieldType} {fs : List Value} (h : (List.range N).map (fun j => defaultValue (ty j)) = fs) : ∀ j, j < N → defaultValue (ty j) = vp_V fs j := by
  subst h
  intro j hj
  simp [vp_V, List.getD, hj]
theorem q_newo (C0 : q_C p s m args meth c cc nL ret own dC dI cA) (hH : q_H dC dI A H0 H locs ws) (hA : ∀ q, H0.size ≤ q → A q) {ci : Nat} {C : String} {T : u_T} {N index : Nat} (hc : classes[ci]? = some (C, T, N)) {ty : Nat → FieldType} (hty : ∀ k, k < N → parseFieldDescriptor (T k).2.2.1 = some (ty k)) (hcl : Cond.classLink own index C ∈ q_tbl) (hin : Cond.instantiable C N ∈ q_tbl) (hini : Cond.initialized C ∈ q_tbl) {fs : List Value} (hfs : (List.range N).map (fun j => defaultValue (ty j)) = fs) (hcells : cells + 1 ≤ R.cells) (hslots : slots + N ≤ R.slots) (hdg : decode cc pc = .ok (.new index, 3))
    (kk : ∀ (q : Nat) (H1 : Heap), q_H dC dI A H0 H1 locs (ws ++ [(q, .inr (ci, fs))]) → W p l e R s m args below meth c H1 locs (cells + 1) (slots + N) Q (F0 m (pc + 3) ls (.ref q :: rest))) : W p l e R s m args below meth c H locs cells slots Q (F0 m pc ls rest) :=
  va_new C0.1 C0.2.1 C0.2.2.2.2.1 (q_in hc) ty hty C0.2.2.2.1 (q_hts C0 hcl) (q_hts C0 hin) (q_hts C0 hini) C0.2.2.2.2.2.1 hH.1 hH.2.1 hH.2.2 hA hc (q_fs hfs) hcells hslots hdg (fun q H1 hP hD hS => kk q H1 ⟨hP, hD, hS⟩)
theorem q_putr (C0 : q_C p s m args meth c cc nL ret own dC dI cA) (hH : q_H dC dI A H0 H locs ws) (hin2 : meth.name = "<init>") (q0 : Nat) {a ci : Nat} {fs : List Value} (he : ws[q0]? = some (a, .inr (ci, fs))) {C : String} {T : u_T} {N : Nat} (hc : classes[ci]? = some (C, T, N)) (k : Nat) (hk : k < N) {index : Nat} (hw : Cond.fieldLink own index (T k).1 (T k).2.1 (T k).2.2.1 ∈ q_tbl) (hfin : (T k).2.2.2 = true) (hdecl : (T k).1 = own) {ty : FieldType} {v : Value} (hd : parseFieldDescriptor (T k).2.2.1 = some ty) (hn : narrow ty v = v) (hfit : fits ty v = true) (hlen : k < fs.length) {ws' : va_W} (hws : ws.set q0 (a, .inr (ci, fs.set k v)) = ws') (hdg : decode cc pc = .ok (.putfield index, 3))
    (kk : ∀ (H1 : Heap) (locs1 : List Loc), q_H dC dI A H0 H1 locs1 ws' → W p l e R s m args below meth c H1 locs1 cells slots Q (F0 m (pc + 3) ls rest)) : W p l e R s m args below meth c H locs cells slots Q (F0 m pc ls (v :: .ref a :: rest)) := by
  obtain ⟨ty0, hty⟩ := q_ty hc
  subst hws
  exact va_putF (D := (dC, dI)) C0.1 C0.2.1 C0.2.2.2.2.1 (q_in hc) ty0 hty (q_nm hc) C0.2.2.2.1 C0.2.2.2.2.2.1 hH.1 hH.2.1 hH.2.2 q0 he hc k hk (q_hts C0 hw) (fun _ h => h) hfin hin2 hdecl hd hn hfit hlen hdg (fun H1 locs1 a1 a2 a3 => kk H1 locs1 ⟨a1, a2, a3⟩)
theorem q_blindc {dC : Nat → ClassId} {dI : Nat → Nat → Nat} {cA : ClassId} {av : List Value} {sz : Nat} {w0 : va_W} : FrameBlind (va_Pc av (q_Kc dC dI cA sz w0)) := fun a U g mk q => by
  obtain ⟨q0, ⟨q1, qP, qK, qD⟩, qn⟩ := q
  exact ⟨q0, ⟨q1, qP, va_K.moved (u := U) (U := U.calling g mk a) (Vm.Alike.refl U.vm) qK, qD⟩, qn.same rfl⟩
/-- what the tables say of a constructor -/
def q_YC (y : MethodName) (b : ByteArray) (n k : Nat) : Prop :=
  Cond.code y b n none ∈ q_tbl ∧ Cond.instanceMethod y ∈ q_tbl ∧ Cond.initialized y.cls ∈ q_tbl ∧ y.cls ≠ "java/lang/invoke/MethodHandle" ∧ y.cls ≠ "java/lang/invoke/VarHandle" ∧ (parseMethodDescriptor y.desc).map (fun d => d.parameters.length) = some k
theorem q_ctorK {S : Type} {a : Nat} {As : List Value} {w0 : va_W} {w : S → va_W} {post : S → Prop} {st0 : List Value} {isR : List Nat} {mc ms : Nat}
    (hH : q_H dC dI A H0 H locs ws) (hA : ∀ q, H0.size ≤ q → A q) (hp : q_Pl ws w0 w (fun u => isR.filterMap (fun i => ws[i]?) ++ w u))
    (hrun : va_Run p l e R s m args below meth c H locs cells slots mc ms (F0 m pc ls st0) rest (va_Qv post (q_B dC dI cA (va_A w0 H.size) w) (va_A w0 H.size) (Value.ref a :: As).toArray) (va_A w0 H.size))
    (kk : ∀ (u : S) (H1 : Heap) (locs1 : List Loc), post u → q_H dC dI A H0 H1 locs1 (isR.filterMap (fun i => ws[i]?) ++ w u) → W p l e R s m args below meth c H1 locs1 (cells + mc) (slots + ms) Q (F0 m (pc + 3) ls rest)) : W p l e R s m args below meth c H locs cells slots Q (F0 m pc ls st0) := by
  obtain ⟨wr, hpe, -⟩ := id hp
  obtain ⟨-, -, hFc⟩ := q_cut hH hA hpe
  refine va_callv hrun hH.2.2 (fun q _ h => hFc q h) hFc (fun u t H1 locs1 ht hvm hpo hB hz1 hk1 hS => ?_)
  exact kk u H1 locs1 hpo (q_after hH hA hp ht hB hk1 hS)
theorem q_ctor {S : Type} {y : MethodName} {b : ByteArray} {n fr lo k index mc ms : Nat} {a : Nat} {As : List Value} {w0 : va_W} {w : S → va_W} {post : S → Prop} {st0 : List Value} {isR : List Nat}
    (C0 : q_C p s m args meth c cc nL ret own dC dI cA) (hne : q_nest s) (hH : q_H dC dI A H0 H locs ws) (hA : ∀ q, H0.size ≤ q → A q) (hM : q_Mc l y b n mc ms fr lo (.ref a :: As) dC dI cA w0 w H.size post) (hY : q_YC y b n k) (hy : y.name = "<init>") (hl : Cond.methodLink own index y ∈ q_tbl)
    (hp : q_Pl ws w0 w (fun u => isR.filterMap (fun i => ws[i]?) ++ w u))
    (hr : fr + 1 ≤ R.frames ∧ 8 + (n + 11) + lo ≤ R.locals) (hk : As.length = k) (hst : st0 = As.reverse ++ .ref a :: rest) (hW : (rest.map fun v => v.category).sum ≤ 8) (hz : ls.size = nL) (hdg : decode cc pc = .ok (.invokespecial index, 3)) (hf : cells + mc ≤ R.cells ∧ slots + ms ≤ R.slots)
    (kk : ∀ (u : S) (H1 : Heap) (locs1 : List Loc), post u → q_H dC dI A H0 H1 locs1 (isR.filterMap (fun i => ws[i]?) ++ w u) → W p l e R s m args below meth c H1 locs1 (cells + mc) (slots + ms) Q (F0 m (pc + 3) ls rest)) : W p l e R s m args below meth c H locs cells slots Q (F0 m pc ls st0) := by
  subst hst
  obtain ⟨wr, hpe, -⟩ := id hp
  obtain ⟨hP0, hD0, -⟩ := q_cut hH hA hpe
  exact q_ctorK hH hA hp (va_runI (As := As) (rest := rest) ⟨C0.1, C0.2.1, C0.2.2.1, C0.2.2.2.1, C0.2.2.2.2.1⟩ hM (cwI k C0.2.2.2.2.1 (q_good hY.1) rfl rfl rfl (q_hts C0 hY.2.2.1) (q_hts C0 hl) (q_hts C0 hY.2.1) hy hY.2.2.2 hr) ⟨q_blindc, fun U hU hW => ⟨rfl, ⟨by rw [hU], by rw [hU]; exact hP0, va_K.moved hW.alike C0.2.2.2.2.2.1, hD0⟩, hne.warm hW⟩⟩ rfl hk hz rfl (lv_room hW) hdg hf) kk
theorem q_ctorN {S : Type} {y : MethodName} {b : ByteArray} {n fr lo k index mc ms : Nat} {a : Nat} {As : List Value} {w0 : va_W} {w : S → va_W} {post : S → Prop} {st0 : List Value} {isR : List Nat} {host : String}
    (C0 : q_C p s m args meth c cc nL ret own dC dI cA) (hne : q_nest s) (hH : q_H dC dI A H0 H locs ws) (hA : ∀ q, H0.size ≤ q → A q) (hM : q_Mc l y b n mc ms fr lo (.ref a :: As) dC dI cA w0 w H.size post) (hY : q_YC y b n k) (hy : y.name = "<init>") (hl : va_Nw (.methodLinkNest own index y host) s)
    (hp : q_Pl ws w0 w (fun u => isR.filterMap (fun i => ws[i]?) ++ w u))
    (hr : fr + 1 ≤ R.frames ∧ 8 + (n + 11) + lo ≤ R.locals) (hk : As.length = k) (hst : st0 = As.reverse ++ .ref a :: rest) (hW : (rest.map fun v => v.category).sum ≤ 8) (hz : ls.size = nL) (hdg : decode cc pc = .ok (.invokespecial index, 3)) (hf : cells + mc ≤ R.cells ∧ slots + ms ≤ R.slots)
    (kk : ∀ (u : S) (H1 : Heap) (locs1 : List Loc), post u → q_H dC dI A H0 H1 locs1 (isR.filterMap (fun i => ws[i]?) ++ w u) → W p l e R s m args below meth c H1 locs1 (cells + mc) (slots + ms) Q (F0 m (pc + 3) ls rest)) : W p l e R s m args below meth c H locs cells slots Q (F0 m pc ls st0) := by
  subst hst
  obtain ⟨wr, hpe, -⟩ := id hp
  obtain ⟨hP0, hD0, -⟩ := q_cut hH hA hpe
  exact q_ctorK hH hA hp (va_runIN (As := As) (rest := rest) ⟨C0.1, C0.2.1, C0.2.2.1, C0.2.2.2.1, C0.2.2.2.2.1⟩ hM ⟨va_cnB k C0.2.2.2.2.1 (q_good hY.1) rfl rfl rfl hl (q_hts C0 hY.2.2.1) hY.2.2.2 hr, hy, q_hts C0 hY.2.1⟩ ⟨q_blindc, fun U hU hW => ⟨rfl, ⟨by rw [hU], by rw [hU]; exact hP0, va_K.moved hW.alike C0.2.2.2.2.2.1, hD0⟩, hne.warm hW⟩⟩ rfl hk hz rfl (lv_room hW) hdg hf) kk
end QRC
