/-! the reference: a change, set, drop -/
/-- what holds of X between calls -/
def IX (N : Nat) (X : Nat → Nat) : Prop := XB N X ∧ X 3 < X 0 ∧ CX X
noncomputable def ssX (X : Nat → Nat) (t n : Nat) (v : Int32) : Nat → Nat := if X 10 = 1 then tlX X t v.toBitVec.toNat n else (stZ X t n v.toInt64.toBitVec.toNat).1
noncomputable def ssA (X : Nat → Nat) (t n : Nat) (v : Int32) : Int32 := if X 10 = 1 then tlA X t else stA X t n v.toInt64.toBitVec.toNat
def stok (X : Nat → Nat) (x1 x3 : Int32) : Prop := X 2 = 1 ∧ (∃ t, t ≤ 31 ∧ x1 = nI t) ∧ ∃ n, 1 ≤ n ∧ n ≤ 4 ∧ x3 = nI n
section MK
variable {σ : Rg} {μ : Ar} {X : Nat → Nat} {N : Nat}
theorem nI_bv (v : Int32) : v = nI v.toBitVec.toNat := by
  show v = Int32.ofNat _
  apply Int32.toBitVec_inj.mp
  show _ = BitVec.ofNat 32 _
  simp
theorem icN_le (X : Nat → Nat) (t j : Nat) : icN X t j ≤ j := by
  induction j with
  | zero => exact Nat.le_refl _
  | succ j ih => unfold icN; (repeat' split) <;> omega
theorem sm_inChange (hR : RM μ X) (h11 : X 11 ≤ 8) (hl : ∀ k, k < X 11 → X (12 + k) ≤ 31) {t : Nat} (ht : t ≤ 31) {Q : Int32 → Rg → Ar → Prop} (hQ : Q (nwI (icN X t (X 11))) σ μ) : wp_X6_inChange σ μ (nI t) Q := by
  have key : ∀ d j, j + d = X 11 → icN X t j = 0 → wl_X6_inChange_2 Q (d + 1) σ μ (nI t) (nI j) := by
    intro d
    induction d with
    | zero =>
      intro j hj h0
      have e : j = X 11 := by omega
      refine pk_le (X 11) j (fun _ => ?_) (fun z => absurd z (by omega)) (hR 11 (by omega)) rfl
      rw [e] at h0
      rw [h0] at hQ; exact hQ
    | succ d ih =>
      intro j hj h0
      refine pk_le (X 11) j (fun z => absurd z (by omega)) (fun _ => ?_) (hR 11 (by omega)) rfl
      have hlj := hl j (by omega)
      have e1 : icN X t (j + 1) = if X (12 + j) = t then j + 1 else 0 := by
        show (if icN X t j ≠ 0 then _ else _) = _
        rw [if_neg (by omega)]
      rw [i_12]
      refine ⟨pk_in _ 810 (by omega) rfl, ?_⟩
      rw [nI_clamp (by omega), hR _ (by omega)]
      refine ⟨fun z y ey => ?_, fun z => ?_⟩
      · rw [ey, i_p1]
        exact ih (j + 1) (by omega) (by rw [e1, if_neg (fun g => z (by rw [g]))])
      · have et : X (12 + j) = t := (nI_eq (by omega) (by omega)).mp z
        rw [if_pos et] at e1
        have stay : ∀ e, icN X t (j + 1 + e) = j + 1 := by
          intro e
          induction e with
          | zero => exact e1
          | succ e ihe =>
            show (if icN X t (j + 1 + e) ≠ 0 then icN X t (j + 1 + e) else _) = _
            rw [ihe, if_pos (by omega)]
        have := stay d
        rw [show j + 1 + d = X 11 by omega] at this
        rw [this] at hQ; exact hQ
  exact ⟨X 11 + 1, key (X 11) 0 (by omega) rfl⟩
theorem sm_tells (hR : RM μ X) (h11 : X 11 ≤ 8) (hl : ∀ k, k < X 11 → X (12 + k) ≤ 31) {t n : Nat} {v : Int32} (ht : t ≤ 31) {Q : Int32 → Rg → Ar → Prop} (hQ : ∀ μ', RM μ' (tlX X t v.toBitVec.toNat n) → FA μ μ' → Q (tlA X t) σ μ') : wp_X6_tells σ μ (nI t) v (nI n) Q := by
  have hle := icN_le X t (X 11)
  have lay3 : ∀ (Y : Nat → Nat) (μ1 : Ar) (k : Nat), k < 8 → RM μ1 Y → FA μ μ1 → tlX X t v.toBitVec.toNat n = tl3 Y k t v.toBitVec.toNat n → tlA X t = 0 → wb_X6_tells_46 Q σ μ1 (nI t) v (nI n) (nI k) := by
    intro Y μ1 k hk R1 A1 ex ea
    refine ⟨pk_in _ 810 (by omega) (i_12 k), fun μ2 e2 => ⟨pk_in _ 810 (by omega) (i_20 k), fun μ3 e3 => ⟨pk_in _ 810 (by omega) (i_28 k), fun μ4 e4 => ?_⟩⟩⟩
    rw [i_12, nI_clamp (by omega)] at e2
    rw [i_20, nI_clamp (by omega)] at e3
    rw [i_28, nI_clamp (by omega)] at e4
    have R2 : RM μ2 (ux Y (12 + k) t) := by rw [e2]; exact R1.set rfl
    have R3 : RM μ3 (ux (ux Y (12 + k) t) (20 + k) v.toBitVec.toNat) := by rw [e3]; exact R2.set (nI_bv v)
    have R4 : RM μ4 (tl3 Y k t v.toBitVec.toNat n) := by rw [e4]; exact R3.set rfl
    have := hQ μ4 (by rw [ex]; exact R4) (A1.tr (by rw [e4, e3, e2]; exact (FA.set.tr FA.set).tr FA.set))
    rw [ea] at this
    exact this
  refine sm_inChange hR h11 hl ht ?_
  by_cases h0 : icN X t (X 11) = 0
  · rw [h0]
    refine ⟨fun z => absurd z (by decide), fun _ => ?_⟩
    refine ⟨fun z y ey μ1 e1 => ?_, fun z => ?_⟩
    · have n8 : X 11 ≠ 8 := fun g => z (by rw [hR 11 (by omega), g]; rfl)
      rw [ey, hR 11 (by omega)]
      refine lay3 (ux X 11 (X 11 + 1)) μ1 (X 11) (by omega) ?_ ?_ ?_ ?_
      · rw [e1]; exact hR.set (by rw [hR 11 (by omega)]; exact i_p1 _)
      · rw [e1]; exact FA.set
      · unfold tlX; rw [if_neg (by omega), if_neg n8]
      · unfold tlA; rw [if_neg (by omega), if_neg n8]
    · have e8 : X 11 = 8 := (nI_eq (b := 8) (by omega) (by omega)).mp ((hR 11 (by omega)).symm.trans z)
      have ex : tlX X t v.toBitVec.toNat n = X := by unfold tlX; rw [if_neg (by omega), if_pos e8]
      have ea : tlA X t = -1 := by unfold tlA; rw [if_neg (by omega), if_pos e8]
      have := hQ μ (by rw [ex]; exact hR) FA.rf
      rw [ea] at this; exact this
  · rw [nwI_some h0]
    refine ⟨fun _ => ?_, fun z => absurd (nI_pos' (by omega)) z⟩
    refine lay3 X μ _ (by omega) hR FA.rf ?_ ?_
    · unfold tlX; rw [if_pos h0]
    · unfold tlA; rw [if_pos h0]
theorem sm_sets (hR : RM μ X) (hI : IX N X) (hN : N < 2 ^ 28) {t n : Nat} {v : Int32} (ht : t ≤ 31) (hn : n ≤ 4) {Q : Int32 → Rg → Ar → Prop} (hQ : ∀ σ' μ', RM μ' (ssX X t n v) → FK σ μ σ' μ' → Q (ssA X t n v) σ' μ') : wp_X6_sets σ μ (nI t) v (nI n) Q := by
  obtain ⟨hB, h3, hC⟩ := hI
  unfold ssX ssA at hQ
  by_cases h10 : X 10 = 1
  · rw [if_pos h10, if_pos h10] at hQ
    obtain ⟨c1, c2⟩ := hC h10
    refine ⟨fun z => absurd (by rw [hR 10 (by omega), h10]; rfl) z, fun _ => ?_⟩
    exact sm_tells hR c1 (fun k hk => (c2 k hk).1) ht (fun μ1 R1 A1 => hQ σ μ1 R1 ⟨rfl, A1 1 (by omega)⟩)
  · rw [if_neg h10, if_neg h10] at hQ
    exact sm_set0 hR hB hN h3 ht hn hQ h10
theorem tl_C {k t v n : Nat} (hk : k < 8) (ht : t ≤ 31) (hn : n ≤ 4) (h11 : X 11 ≤ 8) (hkk : ∀ j, j < X 11 → j ≠ k → X (12 + j) ≤ 31 ∧ X (28 + j) ≤ 4) : CX (tl3 X k t v n) := by
  unfold tl3
  intro _
  have e11 : ux (ux (ux X (12 + k) t) (20 + k) v) (28 + k) n 11 = X 11 := by rw [ux_n (by omega), ux_n (by omega), ux_n (by omega)]
  rw [e11]
  refine ⟨h11, fun j hj => ?_⟩
  rw [ux_n (show 12 + j ≠ 28 + k by omega), ux_n (show 12 + j ≠ 20 + k by omega)]
  by_cases e : j = k
  · subst e
    rw [ux_s, ux_s]; exact ⟨ht, hn⟩
  · rw [ux_n (show 12 + j ≠ 12 + k by omega), ux_n (show 28 + j ≠ 28 + k by omega), ux_n (show 28 + j ≠ 20 + k by omega), ux_n (show 28 + j ≠ 12 + k by omega)]
    exact hkk j hj e
theorem tl3_far {k t v n q : Nat} (h : q < 12 ∨ 36 ≤ q) (hk : k < 8) : tl3 X k t v n q = X q := by
  unfold tl3
  rw [ux_n (by omega), ux_n (by omega), ux_n (by omega)]
theorem XB.ch {Y : Nat → Nat} (h : XB N X) (hy : ∀ q, q < 11 ∨ 36 ≤ q → Y q = X q) : XB N Y := by
  obtain ⟨a, b, c, d, e, f, g, i, j, k⟩ := h
  refine ⟨?_, ?_, ?_, ?_, ?_, ?_, ?_, ?_, fun q h1 h2 => ?_, fun q h1 h2 => ?_⟩
  all_goals (rw [hy _ (by omega)])
  all_goals first | assumption | exact j q h1 h2 | exact k q h1 h2
theorem tlX_I {t v n : Nat} (hI : IX N X) (h10 : X 10 = 1) (ht : t ≤ 31) (hn : n ≤ 4) : IX N (tlX X t v n) := by
  obtain ⟨hB, h3, hC⟩ := hI
  obtain ⟨c1, c2⟩ := hC h10
  have hle := icN_le X t (X 11)
  unfold tlX
  split
  · rename_i g
    refine ⟨hB.ch (fun q hq => tl3_far (by omega) (by omega)), ?_, tl_C (by omega) ht hn c1 (fun j hj _ => c2 j hj)⟩
    rw [tl3_far (by omega) (by omega), tl3_far (by omega) (by omega)]; exact h3
  · split
    · exact ⟨hB, h3, hC⟩
    · rename_i g8
      refine ⟨hB.ch (fun q hq => by rw [tl3_far (by omega) (by omega), ux_n (by omega)]), ?_, tl_C (by omega) ht hn (by rw [ux_s]; omega) (fun j hj hne => ?_)⟩
      · rw [tl3_far (by omega) (by omega), tl3_far (by omega) (by omega), ux_n (by omega), ux_n (by omega)]; exact h3
      · rw [ux_s] at hj
        rw [ux_n (by omega), ux_n (by omega)]
        exact c2 j (by omega)
end MK
