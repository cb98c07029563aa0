/-! the class's models: reach -/
section REACH
variable {fo : tForm} {fr : tRows} {w : Nat} {dr : List Int32} {cs : List (List Int32)}
theorem mb_add {lr lr' : tRows} {mo : tMods} {se se' : tSear} {tr tr' : tTrail} {s : Nat} (h : MB w cs fr lr mo se tr s) (h1 : lr'.room = 2048) (h2 : SI w cs fr lr' cs.length se' tr') {g : Int32} (hg : (mlw w cs)[s]? = some g) (hm : MOD cs.length (tq cs) (fq cs) (fun v => bt g v)) (hs : s < 60) (hc : mo.complete = 0) : MB w cs fr lr' (tMods.mk (upd mo.rows s g) (nI s + 1) (mo.seenTrue ||| g) (mo.seenFalse ||| (g ^^^ (-1))) mo.begun mo.complete) se' tr' (s + 1) := by
  have h3 := mb_see h h1 h2 hm
  obtain ⟨_, g1, _, g3, g4, g5, g6, g7, g8, g9⟩ := h3
  have hl := (List.getElem?_eq_some_iff.mp hg).1
  refine ⟨h1, g1, h2, nI_1 s, by omega, by omega, fun i x hi hx => ?_, fun q => absurd hc q, g8, g9⟩
  show upd mo.rows s g i = x
  by_cases e : i = s
  · subst e
    rw [hg] at hx
    cases hx
    exact pk_us
  · rw [pk_un e]
    exact h.2.2.2.2.2.2.1 i x (by omega) hx
theorem mb_done {lr lr' : tRows} {mo : tMods} {se se' : tSear} {tr tr' : tTrail} {s : Nat} (h : MB w cs fr lr mo se tr s) (h1 : lr'.room = 2048) (h2 : SI w cs fr lr' cs.length se' tr') (hs : s = (mlw w cs).length) : MB w cs fr lr' (tMods.mk mo.rows (nI s) mo.seenTrue mo.seenFalse mo.begun 1) se' tr' s := by
  obtain ⟨_, g1, _, g3, g4, g5, g6, g7, g8, g9⟩ := h
  exact ⟨h1, g1, h2, rfl, g4, g5, g6, fun _ => hs, g8, g9⟩
theorem ml_mem0 (hok : okF w dr cs) {x : Int32} (h : x ∈ mlw w cs) : MOD cs.length (tq cs) (fq cs) (fun v => bt x v) ∧ ∀ v, bt x v = true → v < w := by
  have w30 := hok.1
  obtain ⟨h1, h2⟩ := ml_mem w 0 0 x (by omega) h
  refine ⟨h1, fun v hv => ?_⟩
  rcases Nat.lt_or_ge v w with q | q
  · exact q
  · rw [h2 v (by omega), b_0] at hv; cases hv
theorem l_reach (hok : okF w dr cs) (h : isFO fo fr w dr cs) {q : Nat} (hq60 : q ≤ 60) {K : tRows → tMods → tSear → tClash → (Nat → Int32) → tTrail → Prop} (hK : ∀ lr mo se sk sw tr s, MB w cs fr lr mo se tr s → (q ≤ s ∨ s = (mlw w cs).length) → K lr mo se sk sw tr) :
    ∀ nn lr mo se sk sw tr s, MB w cs fr lr mo se tr s → ((60 - s) + 2 ≤ nn ∨ (¬ mo.complete = 0 ∧ 1 ≤ nn)) → w_Mods_reach_L4 (nI q) fo fr K nn lr mo se sk sw tr := by
  have w30 := hok.1
  intro nn
  induction nn with
  | zero => intro lr mo se sk sw tr s _ hn; omega
  | succ nn ih =>
    intro lr mo se sk sw tr s hB hn
    have hsz : mo.size = nI s := hB.2.2.2.1
    have s60 : s ≤ 60 := hB.2.2.2.2.1
    have sL : s ≤ (mlw w cs).length := hB.2.2.2.2.2.1
    have hro : lr.room = 2048 := hB.1
    have hS : SI w cs fr lr cs.length se tr := hB.2.2.1
    have fin : ∀ {P : Prop}, (¬ (-1 : Int32) = -1 → P) := fun c => absurd rfl c
    rw [w_Mods_reach_L4, hsz]
    refine pk_le q s (fun c => hK lr mo se sk sw tr s hB (Or.inl c)) (fun c => pk_le 60 s (fun c2 => by omega) (fun c2 => ⟨fun c3 => hK lr mo se sk sw tr s hB (Or.inr (hB.2.2.2.2.2.2.2.1 c3)), fun c3 => ?_⟩))
    have hn2 : (60 - s) + 2 ≤ nn + 1 := hn.resolve_right (fun g => g.1 c3)
    have hins : vp_in (nI s) 60 := vp_in_nI (by omega) (by omega)
    rw [nI_clamp (by omega)]
    cases s with
    | zero =>
      refine ⟨fun c4 => absurd rfl c4, fun _ => ⟨fun c4 => absurd rfl c4, fun _ => ?_⟩⟩
      have hp : pre 0 0 0 := ⟨fun v _ => b_0 v, fun v => by rw [b_0]; simp⟩
      have hs := ml_sat w30 (mf_lt hok) (show 0 + w = w by omega) hp.1 hp.2
      refine s_find hok h (Nat.le_refl _) hro hS (pre_w (show 0 ≤ w by omega) hp) st_00.2.2 (fun lr' se' sk' sw' tr' g1 g2 g3 => ⟨fun c4 => absurd rfl c4, fun _ => ?_⟩) (fun r lr' se' sk' sw' tr' g1 g2 g3 g4 g5 => ⟨fun _ => ⟨fun c4 => absurd rfl c4, fun _ => ?_⟩, fun c4 => absurd c4 (r_ne w30 g5)⟩)
      · have e0 : mlw w cs = [] := List.eq_nil_iff_forall_not_mem.mpr (fun x hx => g3 (hs.mpr ⟨x, hx⟩))
        exact ih lr' _ se' sk' sw' tr' 0 (mb_done hB g1 g2 (by rw [e0]; rfl)) (Or.inr ⟨fun e => absurd e z01, by omega⟩)
      · rw [w_Mods_least]
        refine ⟨w + 1, ?_⟩
        have e0 : lowm r 0 = 0 := by
          refine b_ext (fun v _ => ?_)
          rw [b_lowm r (by omega), b_0]; simp
        refine l_least hok h (H := (mlw w cs)[0]?) ?_ (w + 1) 0 r lr' se' sk' sw' tr' (by omega) g1 g2 g3 g5 (by rw [e0]; rfl) (by omega)
        intro g lr2 se2 sk2 sw2 tr2 k1 k2 k3 k4
        refine ⟨hins, hins, ?_⟩
        rw [pk_us]
        unfold w_Mods_see
        exact ih lr2 _ se2 sk2 sw2 tr2 1 (mb_add hB k1 k2 k4 k3 (by omega) c3) (by omega)
    | succ s' =>
      refine ⟨fun _ => ?_, fun c4 => absurd (nI_inj (a := s' + 1) (b := 0) (by omega) (by omega) c4) (by omega)⟩
      rw [nI_pred, nI_clamp (by omega)]
      have hx := List.getElem?_eq_getElem (show s' < (mlw w cs).length by omega)
      have hrow := hB.2.2.2.2.2.2.1 s' _ (by omega) hx
      have hmem := ml_mem0 hok (List.mem_of_getElem? hx)
      rw [hrow]
      have hrst := ml_rst w30 w 0 0 (by omega) (fun v _ => b_0 v) s' _ hx
      rw [rst, List.append_nil, Nat.zero_add] at hrst
      have hdr : rst cs.length (tq cs) (fq cs) w (mlw w cs)[s'] w = (mlw w cs).drop (s' + 1) := hrst
      clear hrst
      generalize (mlw w cs)[s'] = y at *
      have ny := r_ne w30 hmem.2
      refine ⟨vp_in_nI (by omega) (by omega), fun _ => ?_, fun c4 => absurd c4 ny⟩
      refine s_greater hok h hro hS (fun e0 lr' se' sk' sw' tr' g1 g2 => ⟨fun c4 => absurd rfl c4, fun _ => ?_⟩) (fun r k lr' se' sk' sw' tr' g1 g2 hk hyk el g3 g5 hr => ⟨fun _ => ⟨fun _ => ?_, fun c4 => absurd c4 ny⟩, fun c4 => absurd c4 (r_ne w30 g5)⟩)
      · rw [hdr] at e0
        have := List.drop_eq_nil_iff.mp e0
        exact ih lr' _ se' sk' sw' tr' (s' + 1) (mb_done hB g1 g2 (by omega)) (Or.inr ⟨fun e => absurd e z01, by omega⟩)
      · have bits : ∀ v, v < k + 1 → bt r v = bt (lowm y k ||| b1 k) v := fun v hv => by
          rw [← el, b_lowm r (by omega)]; simp [hv]
        unfold w_Mods_sameAhead
        refine s_ntz (l := k) (by omega) ?_ (fun i hi => ?_) ?_
        · rw [b_xor, hyk, bits k (by omega), b_or, b_b1 (by omega)]; simp
        · have ne : ¬ i = k := by omega
          rw [b_xor, bits i (by omega), b_or, b_b1 (by omega), b_lowm y (by omega)]
          simp [hi, ne]
        · show w_Mods_least r (nI k + 1) fo fr lr' se' sk' sw' tr' _
          rw [w_Mods_least, nI_1]
          refine ⟨w + 1, ?_⟩
          refine l_least hok h (H := (ml cs.length (tq cs) (fq cs) (w - (k + 1)) (k + 1) (lowm r (k + 1)))[0]?) ?_ (w + 1) (k + 1) r lr' se' sk' sw' tr' (by omega) g1 g2 g3 g5 rfl (by omega)
          intro g lr2 se2 sk2 sw2 tr2 k1 k2 k3 k4
          refine ⟨hins, hins, ?_⟩
          have hg : (mlw w cs)[s' + 1]? = some g := by
            have e1 : ((mlw w cs).drop (s' + 1))[0]? = (mlw w cs)[s' + 1]? := by rw [List.getElem?_drop]
            rw [← e1, ← hdr, hr]
            have hlen := (List.getElem?_eq_some_iff.mp k4).1
            rw [List.getElem?_append_left hlen, k4]
          rw [pk_us]
          unfold w_Mods_see
          exact ih lr2 _ se2 sk2 sw2 tr2 (s' + 2) (mb_add hB k1 k2 hg k3 (by omega) c3) (by omega)
theorem s_reach (hok : okF w dr cs) (h : isFO fo fr w dr cs) {q : Nat} (hq60 : q ≤ 60) {lr : tRows} {mo : tMods} {se : tSear} {sk : tClash} {sw : Nat → Int32} {tr : tTrail} (hM : MS w cs fr lr mo se tr) {Q : Int32 → tRows → tMods → tSear → tClash → (Nat → Int32) → tTrail → Prop}
    (h1 : ∀ lr mo se sk sw tr s, MB w cs fr lr mo se tr s → q ≤ s → Q 1 lr mo se sk sw tr) (h0 : ∀ lr mo se sk sw tr s, MB w cs fr lr mo se tr s → s < q → s = (mlw w cs).length → Q 0 lr mo se sk sw tr) : w_Mods_reach (nI q) fo fr lr mo se sk sw tr Q := by
  rw [w_Mods_reach]
  refine s_mbegin hok h hM (fun lr mo se tr s hB => ⟨62, ?_⟩)
  refine l_reach hok h hq60 ?_ 62 lr mo se sk sw tr s hB (by omega)
  intro lr2 mo2 se2 sk2 sw2 tr2 s2 hB2 hor
  have s60 : s2 ≤ 60 := hB2.2.2.2.2.1
  show (mo2.size < nI q → _) ∧ _
  rw [hB2.2.2.2.1]
  exact pk_lt s2 q (fun c => h0 lr2 mo2 se2 sk2 sw2 tr2 s2 hB2 c (by omega)) (fun c => h1 lr2 mo2 se2 sk2 sw2 tr2 s2 hB2 c)
end REACH
