/-! sat: what it answers -/
def pY (x : Int32) : Int32 := if 0 < x.toInt then b1 (x.toInt.toNat - 1) else 0
def pN (x : Int32) : Int32 := if x.toInt < 0 then b1 ((-x.toInt).toNat - 1) else 0
noncomputable def satV (w : Nat) (cs : List (List Int32)) (x : Int32) : Int32 := if x = 0 ∨ isL w x = true then (@ite Int32 (SATw cs.length (tq cs) (fq cs) (pY x) (pN x)) (Classical.propDecidable _) 1 0) else -1
theorem l_refsat {ma : mForm} {w : Nat} {dr : List Int32} {cs : List (List Int32)} (hok : okF w dr cs) (h : isMF ma w dr cs) {x : Int32} {ms : mSat} {Q : Int32 → mSat → Prop} (hq : ∀ ms, Q (satV w cs x) ms) {y no : Int32}
    (hx : x = 0 ∨ isL w x = true) (e1 : pY x = y) (e2 : pN x = no) (hst : stOk y no) : w_Ref_canBe (nI cs.length) y no ma ms (fun r ms => (r = 0 → Q 0 ms) ∧ (¬ r = 0 → Q 1 ms)) := by
  subst e1
  subst e2
  refine s_canBeF hok h (Nat.le_refl _) hst (fun ms q => ⟨fun c => absurd c (by decide), fun _ => ?_⟩) (fun ms q => ⟨fun _ => ?_, fun c => absurd rfl c⟩)
  · have := hq ms
    rw [satV, if_pos hx, if_pos q] at this
    exact this
  · have := hq ms
    rw [satV, if_pos hx, if_neg q] at this
    exact this
