/-! the search: find and begin as calls -/
theorem s_back_any {tr : tTrail} {Q : tTrail → Prop} (hq : ∀ tr', Q tr') : w_Trail_back 0 tr Q := by
  rw [w_Trail_back]
  refine ⟨fun c => absurd c (by decide), fun _ => ⟨fun _ => ⟨vp_in_nI (n := 1) (by omega) (by omega), s_bitCount (hq _)⟩, fun _ => hq tr⟩⟩
section FIND2
variable {fo : tForm} {fr : tRows} {w : Nat} {dr : List Int32} {cs : List (List Int32)} {m : Nat}
theorem s_find (hok : okF w dr cs) (h : isFO fo fr w dr cs) (hm : m ≤ cs.length) {lr : tRows} {se : tSear} {sk : tClash} {sw : Nat → Int32} {tr : tTrail} (hroom : lr.room = 2048) (hS : SI w cs fr lr m se tr) {y no : Int32} (hy : ∀ v, bt y v = true ∨ bt no v = true → v < w) (hd : ∀ v, bt y v = true → bt no v = true → False) {Q : Int32 → tRows → tSear → tClash → (Nat → Int32) → tTrail → Prop}
    (hq0 : ∀ lr se sk sw tr, lr.room = 2048 → SI w cs fr lr m se tr → ¬ SATw m (tq cs) (fq cs) y no → Q (-1) lr se sk sw tr)
    (hq1 : ∀ r lr se sk sw tr, lr.room = 2048 → SI w cs fr lr m se tr → MOD m (tq cs) (fq cs) (fun v => bt r v) → agr y no (fun v => bt r v) → (∀ v, bt r v = true → v < w) → Q r lr se sk sw tr) : w_Sear_find y no fo fr lr se sk sw tr Q := by
  have w30 := hok.1
  have key : ∀ fl, ((fl = 0 ∧ y = 0 ∧ no = 0) ∨ fl = 1) → w_Trail_back 0 tr (fun tr_1 => ∃ nn_2, w_Sear_find_L26 y no (nI fl) fo fr (fun lr_2 se_2 sk_2 sw_2 tr_2 => Q (-1) lr_2 se_2 sk_2 sw_2 tr_2) Q nn_2 0 lr se sk sw tr_1) := by
    intro fl hfl
    rcases hS with ⟨hen, hno⟩ | ⟨hen, hcl, ls, fl0, y0, no0, len, lev, vr, p, dg, hlr, hR, hT⟩
    · refine s_back_any (fun tr' => ⟨1, ?_⟩)
      have res : Q (-1) lr se sk sw tr' := hq0 lr se sk sw tr' hroom (Or.inl ⟨hen, hno⟩) (fun ⟨x, hx, _⟩ => hno ⟨x, hx⟩)
      rw [w_Sear_find_L26]
      exact ⟨fun _ => res, fun _ => ⟨fun _ => res, fun q => absurd q hen⟩⟩
    · obtain ⟨N, hN⟩ : ∃ N : Nat, 35433480232 ≤ N := ⟨_, Nat.le_refl _⟩
      have go : ∀ tr' len', TI m (tq cs) (fq cs) (RW fr lr m ls) fl0 y0 no0 tr' w len' 0 vr p dg → ∃ nn_2, w_Sear_find_L26 y no (nI fl) fo fr (fun lr_2 se_2 sk_2 sw_2 tr_2 => Q (-1) lr_2 se_2 sk_2 sw_2 tr_2) Q nn_2 0 lr se sk sw tr' := fun tr' len' hT' => ⟨N, l_find hok h hm hfl hy hd hq0 hq1 N 0 0 lr ls se sk sw tr' len' 0 vr p dg rfl (Nat.zero_le _) hen hcl hlr hR (ti_zero hT' fl y no) (fun k h1 h2 => by omega) (by omega)⟩
      have hb := s_back (Q := fun tr_1 => ∃ nn_2, w_Sear_find_L26 y no (nI fl) fo fr (fun lr_2 se_2 sk_2 sw_2 tr_2 => Q (-1) lr_2 se_2 sk_2 sw_2 tr_2) Q nn_2 0 lr se sk sw tr_1) w30 hT.1 (t := 0) (by omega) (fun h0 => go _ _ (ti_back hT h0 (fun q => by omega))) (fun h0 => by
        have e : lev = 0 := by omega
        subst e
        exact go _ _ hT)
      exact hb
  rw [w_Sear_find]
  refine ⟨fun _ => key 1 (Or.inr rfl), fun c => key 0 (Or.inl ⟨rfl, (or_eq0.mp c).1, (or_eq0.mp c).2⟩)⟩
theorem s_sbegin (hok : okF w dr cs) (h : isFO fo fr w dr cs) (hm : m ≤ cs.length) {lr : tRows} {se : tSear} {tr : tTrail} (hroom : lr.room = 2048) {Q : tRows → tSear → tTrail → Prop} (hq : ∀ lr' se' tr', lr'.room = 2048 → SI w cs fr lr' m se' tr' → Q lr' se' tr') : w_Sear_begin (nI m) fr lr se tr Q := by
  have w30 := hok.1
  have c400 := hok.2.2.1
  rw [w_Sear_begin, h.2.2.2.1]
  refine s_min (by omega) (by omega) ?_
  rw [show min m cs.length = m by omega]
  show w_Math_max (nI 0) (nI m) _
  refine s_max (by omega) (by omega) ?_
  rw [show max 0 m = m by omega]
  unfold w_Rows_clear w_Trail_clear
  refine hq _ _ _ hroom (Or.inr ⟨rfl, rfl, 0, 0, 0, 0, 0, 0, fun _ => 0, fun _ => 0, fun _ => false, ⟨hroom, rfl, by omega, 0, by omega, rfl⟩, fun a b hab => ?_, ?_⟩)
  · rcases hab with ⟨i, hi, ea, eb⟩ | ⟨i, hi, _⟩
    · obtain ⟨e1, e2⟩ := rows_of h (show i < cs.length by omega)
      rw [← ea, ← eb, e1, e2]
      refine ⟨mf_ok hok (by omega), fun v hv => ?_, fun x hx => hx i hi⟩
      rcases Nat.lt_or_ge v w with q | q
      · exact q
      · have := mf_lt hok i (by omega) v q
        rw [this.1, this.2] at hv
        rcases hv with hv | hv <;> cases hv
    · omega
  · refine ⟨⟨rfl, rfl, by omega, fun i hi => by omega, fun i j hi => by omega, fun v hv => ?_, fun v => ⟨fun hv => ?_, fun ⟨i, hi, _⟩ => by omega⟩, fun k h1 h2 => by omega, fun j k h1 h2 h3 => by omega⟩, fun i hi => by omega, fun i hi => by omega, fun k h1 h2 => by omega, fun k h1 h2 => by omega, fun e => by omega, fun k h1 h2 => by omega, fun h1 => by omega⟩
    · have hv' : bt (0 : Int32) v = true := hv
      rw [b_0] at hv'; cases hv'
    · have hv' : bt (0 : Int32) v = true ∨ bt (0 : Int32) v = true := hv
      rw [b_0] at hv'
      rcases hv' with q | q <;> cases q
end FIND2
