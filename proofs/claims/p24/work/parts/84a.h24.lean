/-! history: both say the same -/
section HS
variable {X : Nat → Nat} {N : Nat}
theorem ctN_le (X : Nat → Nat) (s t : Nat) : ∀ j, ctN X s t j ≤ j
  | 0 => Nat.le_refl _
  | j + 1 => by
    have := ctN_le X s t j
    show ctN X s t j + itp _ _ _ ≤ _
    unfold itp
    split <;> omega
theorem hsF_m1 (X : Nat → Nat) (s t : Nat) : ∀ k met, met + k < 2 ^ 20 → hsF X s t (-1) k met = (nI (met + ctN X s t k)).toInt64
  | 0, met, _ => by
    show (if (-1 : Int32) = -1 then (nI met).toInt64 else -5) = _
    rw [if_pos rfl]; rfl
  | k + 1, met, h => by
    have nz : ¬ nI met = -1 := fun z => absurd (by rw [z]; decide) (nI_pos (n := met) (by omega))
    show itp (isof X s k t) (if nI met = -1 then vlL X s k else hsF X s t (-1) k (met + 1)) (hsF X s t (-1) k met) = (nI (met + (ctN X s t k + itp (isof X s k t) 1 0))).toInt64
    by_cases c : isof X s k t
    · rw [itp_pos c, itp_pos c, if_neg nz, hsF_m1 X s t k (met + 1) (by omega), show met + 1 + ctN X s t k = met + (ctN X s t k + 1) by omega]
    · rw [itp_neg c, itp_neg c, hsF_m1 X s t k met (by omega)]; rfl
theorem hs_eq (hI : IX N X) (x1 x2 : Int32) : hsB X x1 x2 = hsA X x1 x2 := by
  have hE := nE_le (X := X) (s := X 3) hI.1.2.2.2.1
  unfold hsB hsA
  by_cases z : x2 = -1
  · rw [if_pos z, z, hsF_m1 X (X 3) (tn x1) (nE X (X 3)) 0 (by omega), Nat.zero_add]
  · rw [if_neg z]
end HS
