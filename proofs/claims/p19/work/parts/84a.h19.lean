/-! space: both say the same -/
section SP
variable {X : Nat → Nat} {N : Nat}
noncomputable def fT (X : Nat → Nat) (s T i : Nat) : Nat := itp (∃ t, t < T ∧ nwt X s t = i + 1 ∧ 0 < ln X s i) (sz X s (ps X s i)) 0
theorem smN_ex {f g : Nat → Nat} : ∀ n, (∀ i, i < n → f i = g i) → smN f n = smN g n
  | 0, _ => rfl
  | n + 1, h => by
    show smN f n + f n = smN g n + g n
    rw [smN_ex n (fun i hi => h i (by omega)), h n (by omega)]
theorem szN_fT (hB : XB N X) (s : Nat) : ∀ T, T ≤ 48 → szN X s T = 4 + smN (fT X s T) (nE X s)
  | 0, _ => by
    have : ∀ n, smN (fT X s 0) n = 0 := by
      intro n
      induction n with
      | zero => rfl
      | succ n ih =>
        show smN (fT X s 0) n + fT X s 0 n = 0
        rw [ih]
        unfold fT
        rw [itp_neg (fun ⟨t, h, _⟩ => absurd h (by omega))]
    rw [this]; rfl
  | T + 1, hT => by
    have ih := szN_fT hB s T (by omega)
    by_cases g : hv X s T
    · obtain ⟨hi, h3, _, hbt⟩ := nwt_i hB g.1
      have e0 : fT X s T (nwt X s T - 1) = 0 := by
        unfold fT
        rw [itp_neg]
        rintro ⟨t, ht, he, _⟩
        have hne : nwt X s t ≠ 0 := by omega
        have := (nwt_i hB hne).2.2.2
        rw [show nwt X s t - 1 = nwt X s T - 1 by omega, hbt] at this
        omega
      have ef : smN (fT X s (T + 1)) (nE X s) = smN (ux (fT X s T) (nwt X s T - 1) (sz X s (ps X s (nwt X s T - 1)))) (nE X s) := by
        refine smN_ex _ (fun i hi' => ?_)
        by_cases ei : i = nwt X s T - 1
        · rw [ei, ux_s]
          unfold fT
          rw [itp_pos ⟨T, by omega, by have := g.1; omega, g.2⟩]
        · rw [ux_n ei]
          unfold fT
          have : (∃ t, t < T + 1 ∧ nwt X s t = i + 1 ∧ 0 < ln X s i) = (∃ t, t < T ∧ nwt X s t = i + 1 ∧ 0 < ln X s i) := propext ⟨fun ⟨t, h1, h2, h4⟩ => ⟨t, by
            by_cases et : t = T
            · subst et; omega
            · omega, h2, h4⟩, fun ⟨t, h1, h2⟩ => ⟨t, by omega, h2⟩⟩
          rw [this]
      rw [szN_hv g, ← hv_sz hB g, ef, smN_up e0, if_pos hi, ih]; omega
    · have ef : smN (fT X s (T + 1)) (nE X s) = smN (fT X s T) (nE X s) := by
        refine smN_ex _ (fun i hi' => ?_)
        unfold fT
        have : (∃ t, t < T + 1 ∧ nwt X s t = i + 1 ∧ 0 < ln X s i) = (∃ t, t < T ∧ nwt X s t = i + 1 ∧ 0 < ln X s i) := propext ⟨fun ⟨t, h1, h2, h4⟩ => ⟨t, by
          by_cases et : t = T
          · subst et
            exact absurd ⟨by omega, by rw [show nwt X s t - 1 = i by omega]; exact h4⟩ g
          · omega, h2, h4⟩, fun ⟨t, h1, h2⟩ => ⟨t, by omega, h2⟩⟩
        rw [this]
      rw [szN_no g, ef, ih]
theorem lv_fT (hB : XB N X) (s : Nat) : ∀ n, n ≤ nE X s → lvN X s n = smN (fT X s 48) n
  | 0, _ => rfl
  | n + 1, h => by
    show lvN X s n + itp _ _ _ = smN (fT X s 48) n + fT X s 48 n
    rw [lv_fT hB s n (by omega)]
    congr 1
    unfold fT
    have hkd := (ent hB (show n < nE X s by omega)).2.1
    have : (kd X s (ps X s n) ≠ 3 ∧ st2 X s n = 0 ∧ 0 < ln X s n) = (∃ t, t < 48 ∧ nwt X s t = n + 1 ∧ 0 < ln X s n) := by
      apply propext
      constructor
      · rintro ⟨h3, h0, hl⟩
        refine Classical.byContradiction (fun c => ?_)
        have nc : ¬ ∃ t, t < 48 ∧ nwt X s t = n + 1 := fun ⟨t, h1, h2⟩ => c ⟨t, h1, h2, hl⟩
        unfold st2 at h0
        rw [itp_neg nc] at h0
        have : st1 X s (nE X s) n ≠ 0 := by
          unfold st1 itp
          (repeat' split) <;> omega
        exact this h0
      · rintro ⟨t, h1, h2, hl⟩
        have hne : nwt X s t ≠ 0 := by omega
        have h3 := (nwt_i hB hne).2.1
        rw [show nwt X s t - 1 = n by omega] at h3
        refine ⟨h3, ?_, hl⟩
        unfold st2
        rw [itp_pos ⟨t, h1, h2⟩]
    rw [this]
theorem lv_sz (hB : XB N X) (s : Nat) : lvN X s (nE X s) = szN X s 48 - 4 := by
  rw [lv_fT hB s _ (Nat.le_refl _), szN_fT hB s 48 (Nat.le_refl _)]; omega
theorem tn_is {x : Int32} {n : Nat} (hn : n < 2 ^ 31) : x = nI n ↔ tn x = n := ⟨fun h => by rw [h]; exact tn_nI hn, fun h => by rw [← h]; exact tn_e x⟩
theorem sp_eq (hI : IX N X) (x1 x2 : Int32) : spB X x1 x2 = spA X x1 x2 := by
  have hB := hI.1
  unfold spB spA
  by_cases s1 : tn x1 < X 0
  · rw [itp_pos s1]
    have e0 : x2 = 0 ↔ tn x2 = 0 := tn_is (n := 0) (by omega)
    have e1 : x2 = 1 ↔ tn x2 = 1 := tn_is (n := 1) (by omega)
    have e2 : x2 = 2 ↔ tn x2 = 2 := tn_is (n := 2) (by omega)
    have e3 : x2 = 3 ↔ tn x2 = 3 := tn_is (n := 3) (by omega)
    by_cases h3 : tn x2 ≤ 3
    · rw [itp_pos ⟨s1, h3⟩]
      by_cases h0 : tn x2 = 0
      · rw [if_pos (e0.mpr h0), if_pos h0]
      · rw [if_neg (fun c => h0 (e0.mp c)), if_neg h0]
        by_cases h1 : tn x2 = 1
        · rw [if_pos (e1.mpr h1), if_pos h1]
        · rw [if_neg (fun c => h1 (e1.mp c)), if_neg h1]
          by_cases h2 : tn x2 = 2
          · rw [if_pos (e2.mpr h2), if_pos h2, lv_sz hB]
          · rw [if_neg (fun c => h2 (e2.mp c)), if_neg h2, if_pos (e3.mpr (by omega)), ← lv_sz hB, pk_sub (lvN_le _ _ _)]
    · rw [itp_neg (fun c => h3 c.2), if_neg (fun c => by have := e0.mp c; omega), if_neg (fun c => by have := e1.mp c; omega), if_neg (fun c => by have := e2.mp c; omega), if_neg (fun c => by have := e3.mp c; omega)]
  · rw [itp_neg s1, itp_neg (fun c => s1 c.1)]
end SP
