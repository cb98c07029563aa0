/-! the class's models: what is kept of them -/
def MB (w : Nat) (cs : List (List Int32)) (fr lr : tRows) (mo : tMods) (se : tSear) (tr : tTrail) (s : Nat) : Prop := lr.room = 2048 ∧ ¬ mo.begun = 0 ∧ SI w cs fr lr cs.length se tr ∧ mo.size = nI s ∧ s ≤ 60 ∧ s ≤ (mlw w cs).length ∧ (∀ (i : Nat) (x : Int32), i < s → (mlw w cs)[i]? = some x → mo.rows i = x) ∧ (¬ mo.complete = 0 → s = (mlw w cs).length) ∧ (∀ v, bt mo.seenTrue v = true → ∃ x, MOD cs.length (tq cs) (fq cs) x ∧ x v = true) ∧ (∀ v, bt mo.seenFalse v = true → ∃ x, MOD cs.length (tq cs) (fq cs) x ∧ x v = false)
def MS (w : Nat) (cs : List (List Int32)) (fr lr : tRows) (mo : tMods) (se : tSear) (tr : tTrail) : Prop := lr.room = 2048 ∧ (mo.begun = 0 ∨ ∃ s, MB w cs fr lr mo se tr s)
section MODS
variable {fo : tForm} {fr : tRows} {w : Nat} {dr : List Int32} {cs : List (List Int32)}
theorem ms_of {lr : tRows} {mo : tMods} {se : tSear} {tr : tTrail} {s : Nat} (h : MB w cs fr lr mo se tr s) : MS w cs fr lr mo se tr := ⟨h.1, Or.inr ⟨s, h⟩⟩
theorem s_mbegin (hok : okF w dr cs) (h : isFO fo fr w dr cs) {lr : tRows} {mo : tMods} {se : tSear} {tr : tTrail} (hM : MS w cs fr lr mo se tr) {Q : tRows → tMods → tSear → tTrail → Prop} (hq : ∀ lr mo se tr s, MB w cs fr lr mo se tr s → Q lr mo se tr) : w_Mods_begin fr lr mo se tr Q := by
  rw [w_Mods_begin, h.2.2.2.1]
  refine ⟨fun c => ?_, fun c => ?_⟩
  · rcases hM.2 with e | ⟨s, hs⟩
    · exact absurd e c
    · exact hq lr mo se tr s hs
  · refine s_sbegin hok h (Nat.le_refl _) hM.1 (fun lr' se' tr' h1 h2 => hq _ _ _ _ 0 ⟨h1, fun q => absurd q z01, h2, rfl, by omega, by omega, fun i x hi => by omega, fun q => absurd rfl q, fun v hv => ?_, fun v hv => ?_⟩)
    · have hv' : bt (0 : Int32) v = true := hv
      rw [b_0] at hv'; cases hv'
    · have hv' : bt (0 : Int32) v = true := hv
      rw [b_0] at hv'; cases hv'
theorem mb_see {lr lr' : tRows} {mo : tMods} {se se' : tSear} {tr tr' : tTrail} {s : Nat} (h : MB w cs fr lr mo se tr s) (h1 : lr'.room = 2048) (h2 : SI w cs fr lr' cs.length se' tr') {r : Int32} (hm : MOD cs.length (tq cs) (fq cs) (fun v => bt r v)) : MB w cs fr lr' (tMods.mk mo.rows mo.size (mo.seenTrue ||| r) (mo.seenFalse ||| (r ^^^ (-1))) mo.begun mo.complete) se' tr' s := by
  obtain ⟨_, g1, _, g3, g4, g5, g6, g7, g8, g9⟩ := h
  refine ⟨h1, g1, h2, g3, g4, g5, g6, g7, fun v hv => ?_, fun v hv => ?_⟩
  · have hv' : bt (mo.seenTrue ||| r) v = true := hv
    rw [b_or, Bool.or_eq_true] at hv'
    rcases hv' with q | q
    · exact g8 v q
    · exact ⟨_, hm, q⟩
  · have hv' : bt (mo.seenFalse ||| (r ^^^ (-1))) v = true := hv
    rw [b_or, Bool.or_eq_true] at hv'
    rcases hv' with q | q
    · exact g9 v q
    · rcases Nat.lt_or_ge v 32 with c | c
      · rw [b_not _ c] at q
        refine ⟨_, hm, ?_⟩
        show bt r v = false
        simpa using q
      · rw [b_big c] at q; cases q
theorem mb_si {lr lr' : tRows} {mo : tMods} {se se' : tSear} {tr tr' : tTrail} {s : Nat} (h : MB w cs fr lr mo se tr s) (h1 : lr'.room = 2048) (h2 : SI w cs fr lr' cs.length se' tr') : MB w cs fr lr' mo se' tr' s := ⟨h1, h.2.1, h2, h.2.2.2⟩
theorem r_ne (hw : w ≤ 30) {r : Int32} (hb : ∀ v, bt r v = true → v < w) : ¬ r = -1 := sm_ne_m1 (fun v hv => by
  cases q : bt r v with
  | false => rfl
  | true => have := hb v q; omega)
theorem l_allow (hok : okF w dr cs) (h : isFO fo fr w dr cs) {lr : tRows} {mo : tMods} {se : tSear} {sk : tClash} {sw : Nat → Int32} {tr : tTrail} {s : Nat} (hM : MB w cs fr lr mo se tr s) {y no : Int32} (hy : ∀ v, bt y v = true ∨ bt no v = true → v < w) (hd : ∀ v, bt y v = true → bt no v = true → False)
    (hT : ∀ u x, bt y u = true → MOD cs.length (tq cs) (fq cs) x → x u = true → SATw cs.length (tq cs) (fq cs) y no) (hF : ∀ u x, bt no u = true → MOD cs.length (tq cs) (fq cs) x → x u = false → SATw cs.length (tq cs) (fq cs) y no) {Q : Int32 → tRows → tMods → tSear → tClash → (Nat → Int32) → tTrail → Prop}
    (h1 : SATw cs.length (tq cs) (fq cs) y no → ∀ lr mo se sk sw tr, MS w cs fr lr mo se tr → Q 1 lr mo se sk sw tr) (h0 : ¬ SATw cs.length (tq cs) (fq cs) y no → ∀ lr mo se sk sw tr, MS w cs fr lr mo se tr → Q 0 lr mo se sk sw tr) :
    (¬ (y &&& mo.seenTrue) = 0 → Q 1 lr mo se sk sw tr) ∧ ((y &&& mo.seenTrue) = 0 → (((no &&& mo.seenFalse) = 0 → w_Sear_find y no fo fr lr se sk sw tr (fun r lr' se' sk' sw' tr' => ((¬ r = (-1) → w_Mods_see r mo (fun mo' => Q 1 lr' mo' se' sk' sw' tr')) ∧ (r = (-1) → Q 0 lr' mo se' sk' sw' tr')))) ∧ (¬ (no &&& mo.seenFalse) = 0 → Q 1 lr mo se sk sw tr))) := by
  refine ⟨fun c => ?_, fun _ => ⟨fun _ => ?_, fun c => ?_⟩⟩
  · obtain ⟨u, e1, e2⟩ := and_ne0.mp c
    obtain ⟨x, hx, hu⟩ := hM.2.2.2.2.2.2.2.2.1 u e2
    exact h1 (hT u x e1 hx hu) lr mo se sk sw tr (ms_of hM)
  · refine s_find hok h (Nat.le_refl _) hM.1 hM.2.2.1 hy hd (fun lr' se' sk' sw' tr' g1 g2 g3 => ⟨fun q => absurd rfl q, fun _ => h0 g3 lr' mo se' sk' sw' tr' (ms_of (mb_si hM g1 g2))⟩) (fun r lr' se' sk' sw' tr' g1 g2 g3 g4 g5 => ⟨fun _ => ?_, fun q => absurd q (r_ne hok.1 g5)⟩)
    unfold w_Mods_see
    exact h1 ⟨_, g3, g4⟩ _ _ _ _ _ _ (ms_of (mb_see hM g1 g2 g3))
  · obtain ⟨u, e1, e2⟩ := and_ne0.mp c
    obtain ⟨x, hx, hu⟩ := hM.2.2.2.2.2.2.2.2.2 u e2
    exact h1 (hF u x e1 hx hu) lr mo se sk sw tr (ms_of hM)
theorem s_allow (hok : okF w dr cs) (h : isFO fo fr w dr cs) {lr : tRows} {mo : tMods} {se : tSear} {sk : tClash} {sw : Nat → Int32} {tr : tTrail} (hM : MS w cs fr lr mo se tr) {x : Int32} (hx : -(w : Int) ≤ x.toInt ∧ x.toInt ≤ w) {Q : Int32 → tRows → tMods → tSear → tClash → (Nat → Int32) → tTrail → Prop}
    (h1 : SATw cs.length (tq cs) (fq cs) (pY x) (pN x) → ∀ lr mo se sk sw tr, MS w cs fr lr mo se tr → Q 1 lr mo se sk sw tr) (h0 : ¬ SATw cs.length (tq cs) (fq cs) (pY x) (pN x) → ∀ lr mo se sk sw tr, MS w cs fr lr mo se tr → Q 0 lr mo se sk sw tr) : w_Mods_allow x fo fr lr mo se sk sw tr Q := by
  have w30 := hok.1
  have z0 : (0 : Int32).toInt = 0 := rfl
  have n0 : ∀ v, ¬ bt (0 : Int32) v = true := fun v q => by rw [b_0] at q; cases q
  rw [w_Mods_allow]
  refine s_mbegin hok h hM (fun lr mo se tr s hB => ?_)
  have c00 : pY x = 0 → pN x = 0 → _ := fun e1 e2 => l_allow (sk := sk) (sw := sw) (y := 0) (no := 0) (Q := Q) hok h hB (fun v q => (q.elim (n0 v) (n0 v)).elim) (fun v q => (n0 v q).elim) (fun u x q => (n0 u q).elim) (fun u x q => (n0 u q).elim) (by rw [e1, e2] at h1; exact h1) (by rw [e1, e2] at h0; exact h0)
  refine ⟨fun c => s_abs (by omega) ⟨fun c1 => ⟨fun c2 => ?_, fun c2 => ?_⟩, fun c1 => ⟨fun c2 => ?_, fun c2 => ?_⟩⟩, fun c => ⟨fun c1 => ⟨fun c2 => ?_, fun c2 => ?_⟩, fun c1 => ⟨fun c2 => ?_, fun c2 => ?_⟩⟩⟩
  · rw [ti_le, z0] at c1 c2
    exact c00 (if_neg (by omega)) (if_neg (by omega))
  · rw [ti_le, z0] at c1 c2
    obtain ⟨u, hu⟩ : ∃ u : Nat, x.toInt = -((u : Int) + 1) := ⟨(-x.toInt - 1).toNat, by omega⟩
    have e1 : pY x = 0 := if_neg (by omega)
    have e2 : pN x = b1 u := by
      unfold pN
      rw [if_pos (by omega)]
      congr 1
      omega
    rw [e1, e2] at h1 h0
    rw [show x.toInt.natAbs = u + 1 by omega, nI_pred]
    have hu2 : u < w := by omega
    have hb : ∀ v, bt (b1 u) v = true → v = u := fun v q => by rw [b_b1 (by omega)] at q; simpa using q
    exact l_allow (sk := sk) (sw := sw) (Q := Q) hok h hB (fun v q => q.elim (fun q => (n0 v q).elim) (fun q => by rw [hb v q]; exact hu2)) (fun v q => (n0 v q).elim) (fun u x q => (n0 u q).elim) (fun v z q hz hf => ⟨z, hz, fun v2 q2 => (n0 v2 q2).elim, fun v2 q2 => by rw [hb v2 q2, ← hb v q]; exact hf⟩) h1 h0
  · rw [ti_le, z0] at c1 c2
    obtain ⟨u, hu⟩ : ∃ u : Nat, x.toInt = (u : Int) + 1 := ⟨(x.toInt - 1).toNat, by omega⟩
    have e2 : pN x = 0 := if_neg (by omega)
    have e1 : pY x = b1 u := by
      unfold pY
      rw [if_pos (by omega)]
      congr 1
      omega
    rw [e1, e2] at h1 h0
    rw [show x.toInt.natAbs = u + 1 by omega, nI_pred]
    have hu2 : u < w := by omega
    have hb : ∀ v, bt (b1 u) v = true → v = u := fun v q => by rw [b_b1 (by omega)] at q; simpa using q
    exact l_allow (sk := sk) (sw := sw) (Q := Q) hok h hB (fun v q => q.elim (fun q => by rw [hb v q]; exact hu2) (fun q => (n0 v q).elim)) (fun v _ q => (n0 v q).elim) (fun v z q hz hf => ⟨z, hz, fun v2 q2 => by rw [hb v2 q2, ← hb v q]; exact hf, fun v2 q2 => (n0 v2 q2).elim⟩) (fun u x q => (n0 u q).elim) h1 h0
  · rw [ti_le, z0] at c1 c2
    omega
  · rw [ti_le, z0] at c1 c2
    exact c00 (if_neg (by omega)) (if_neg (by omega))
  · rw [ti_le, z0] at c2
    rw [c, z0] at c2
    omega
  · rw [ti_le, z0] at c1
    rw [c, z0] at c1
    omega
  · rw [ti_le, z0] at c1
    rw [c, z0] at c1
    omega
end MODS
