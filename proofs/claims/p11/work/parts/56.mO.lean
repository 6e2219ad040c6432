/-! the reference: what holds between calls stays; bump, commit, hand -/
/-- 1 + the first byte of eight that is not 0; 0: none -/
def fzN (X : Nat → Nat) (s p : Nat) : Nat → Nat
  | 0 => 0
  | j + 1 => if fzN X s p j ≠ 0 then fzN X s p j else if bt X s (p + j) ≠ 0 then j + 1 else 0
def hb8 (b : Nat) : Nat := if 128 ≤ b then 128 else if 64 ≤ b then 64 else if 32 ≤ b then 32 else if 16 ≤ b then 16 else if 8 ≤ b then 8 else if 4 ≤ b then 4 else if 2 ≤ b then 2 else b
section MO
variable {σ : Rg} {μ : Ar} {X : Nat → Nat} {N : Nat}
theorem XB.lo {Y : Nat → Nat} (h : XB N X) (h0 : Y 0 = X 0) (h1 : Y 1 = X 1) (h2 : Y 2 ≤ 1) (h4 : Y 4 ≤ 9999) (h5 : Y 5 ≤ 255) (h10 : Y 10 ≤ 1) (hc : ∀ q, 42 ≤ q → q < 810 → Y q ≤ 255) (he : ∀ q, 36 ≤ q → q < 42 → Y q = X q) : XB N Y := by
  obtain ⟨a, b, c, d, e, f, g, i, j, k⟩ := h
  refine ⟨?_, ?_, ?_, ?_, h2, h4, h5, h10, hc, fun q q1 q2 => ?_⟩
  · rw [h0]; exact a
  · rw [h0]; exact b
  · rw [h1]; exact c
  · rw [h1]; exact d
  · rw [he q q1 q2]; exact k q q1 q2
theorem dpX_I {x : Int32} (hI : IX N X) : IX (N + 2) (dpX X x) := by
  unfold dpX itp
  split
  · rename_i g; exact ssX_I hI g.2.1 (by omega)
  · exact hI.mono (by omega)
theorem bgX_I (hI : IX N X) : IX N (bgX X) := by
  unfold bgX
  split
  · have hB := hI.1
    obtain ⟨a, b, c, d, e, f, g, i, j, k⟩ := hI.1
    have u : ∀ q, q ≠ 10 → q ≠ 11 → ux (ux X 10 1) 11 0 q = X q := fun q h1 h2 => by rw [ux_n h2, ux_n h1]
    refine ⟨hB.lo (u _ (by omega) (by omega)) (u _ (by omega) (by omega)) (by rw [u _ (by omega) (by omega)]; exact e) (by rw [u _ (by omega) (by omega)]; exact f) (by rw [u _ (by omega) (by omega)]; exact g) (by rw [ux_n (by omega), ux_s]; omega) (fun q q1 q2 => by rw [u _ (by omega) (by omega)]; exact j q q1 q2) (fun q q1 q2 => u _ (by omega) (by omega)), ?_, fun _ => ?_⟩
    · rw [u _ (by omega) (by omega), u _ (by omega) (by omega)]; exact hI.2.1
    · rw [ux_s]; exact ⟨by omega, fun k hk => absurd hk (by omega)⟩
  · exact hI
theorem x10_I {Y : Nat → Nat} (hI : IX N X) (hu : ∀ q, q ≠ 10 → q ≠ 2 → q ≠ 8 → Y q = X q) (h2 : Y 2 ≤ 1) (h10 : Y 10 = 0) : IX N Y := by
  have hB := hI.1
  obtain ⟨a, b, c, d, e, f, g, i, j, k⟩ := hI.1
  refine ⟨hB.lo (hu _ (by omega) (by omega) (by omega)) (hu _ (by omega) (by omega) (by omega)) h2 (by rw [hu _ (by omega) (by omega) (by omega)]; exact f) (by rw [hu _ (by omega) (by omega) (by omega)]; exact g) (by omega) (fun q q1 q2 => by rw [hu _ (by omega) (by omega) (by omega)]; exact j q q1 q2) (fun q q1 q2 => hu _ (by omega) (by omega) (by omega)), ?_, fun h => absurd h (by omega)⟩
  rw [hu _ (by omega) (by omega) (by omega), hu _ (by omega) (by omega) (by omega)]; exact hI.2.1
theorem abX_I (hI : IX N X) : IX N (abX X) := by
  unfold abX
  split
  · exact hI
  · exact x10_I hI (fun q h1 _ _ => ux_n h1) (by rw [ux_n (by omega)]; exact hI.1.2.2.2.2.1) ux_s
theorem ofX_I (hI : IX N X) : IX N (ofX X) := by
  unfold ofX
  split
  · exact x10_I hI (fun q h1 h2 _ => by rw [ux_n h1, ux_n h2]) (by rw [ux_n (by omega), ux_s]; omega) ux_s
  · exact hI
theorem pwX_I {x1 x2 : Int32} (hI : IX N X) : IX N (pwX X x1 x2) := by
  unfold pwX itp
  split
  · rename_i gp
    have hB := hI.1
    obtain ⟨a, b, c, d, e, f, g, i, j, k⟩ := hI.1
    have u : ∀ q, q ≠ 4 → q ≠ 5 → ux (ux X 4 (tn x1)) 5 (tn x2) q = X q := fun q h1 h2 => by rw [ux_n h2, ux_n h1]
    refine ⟨hB.lo (u _ (by omega) (by omega)) (u _ (by omega) (by omega)) (by rw [u _ (by omega) (by omega)]; exact e) (by rw [ux_n (by omega), ux_s]; exact gp.1) (by rw [ux_s]; exact gp.2) (by rw [u _ (by omega) (by omega)]; exact i) (fun q q1 q2 => by rw [u _ (by omega) (by omega)]; exact j q q1 q2) (fun q q1 q2 => u _ (by omega) (by omega)), ?_, fun h => ?_⟩
    · rw [u _ (by omega) (by omega), u _ (by omega) (by omega)]; exact hI.2.1
    · rw [u _ (by omega) (by omega)] at h
      obtain ⟨c1, c2⟩ := hI.2.2 h
      rw [u _ (by omega) (by omega)]
      refine ⟨c1, fun k hk => ?_⟩
      rw [u _ (by omega) (by omega), u _ (by omega) (by omega)]; exact c2 k hk
  · exact hI
theorem rtX_I {x1 x2 x3 : Int32} (hI : IX N X) : IX N (rtX X x1 x2 x3) := by
  unfold rtX itp
  split
  · rename_i gp
    have hB := hI.1
    obtain ⟨a, b, c, d, e, f, g, i, j, k⟩ := hI.1
    have u : ∀ q, q < 42 → ux X (42 + 128 * tn x1 + tn x2) (bt X (tn x1) (tn x2) &&& tn x3) q = X q := fun q h1 => ux_n (by omega)
    refine ⟨hB.lo (u _ (by omega)) (u _ (by omega)) (by rw [u _ (by omega)]; exact e) (by rw [u _ (by omega)]; exact f) (by rw [u _ (by omega)]; exact g) (by rw [u _ (by omega)]; exact i) (fun q q1 q2 => ?_) (fun q q1 q2 => u _ (by omega)), ?_, fun h => ?_⟩
    · by_cases gq : q = 42 + 128 * tn x1 + tn x2
      · rw [gq, ux_s]; exact Nat.le_trans Nat.and_le_right gp.2.2.2
      · rw [ux_n gq]; exact j q q1 q2
    · rw [u _ (by omega), u _ (by omega)]; exact hI.2.1
    · rw [u _ (by omega)] at h
      obtain ⟨c1, c2⟩ := hI.2.2 h
      rw [u _ (by omega)]
      refine ⟨c1, fun k hk => ?_⟩
      rw [u _ (by omega), u _ (by omega)]; exact c2 k hk
  · exact hI
/-- hand -/
noncomputable def hnX (X : Nat → Nat) : Nat → Nat := if X 2 = 1 then (hoZ (ux X 8 0, false)).1 else X
noncomputable def hnA (X : Nat → Nat) : Int32 := if X 2 = 1 then tdI (hoZ (ux X 8 0, false)) else -1
theorem x8_3 (h3 : X 3 < X 0) : (ux X 8 0) 3 < (ux X 8 0) 0 := by rw [ux_n (by omega), ux_n (by omega)]; exact h3
theorem hnX_I (hI : IX N X) : IX (N + 2) (hnX X) := by
  unfold hnX
  split
  · exact ⟨hoZ_XB (Z := (ux X 8 0, false)) (x8_XB hI.1) (x8_3 hI.2.1), hoZ_3 (Z := (ux X 8 0, false)) (x8_XB hI.1) (x8_3 hI.2.1), dn_C hI.2.2 hI.1 (dn_tr (dn_ux (by omega)) (dn_hoZ (Z := (ux X 8 0, false))))⟩
  · exact hI.mono (by omega)
theorem sm_hand (hR : RM μ X) (hI : IX N X) (hN : N < 2 ^ 28) {Q : Int32 → Rg → Ar → Prop} (hQ : ∀ σ' μ', RM μ' (hnX X) → σ' 0 = 0 → Q (hnA X) σ' μ') : wp_X6_hand σ μ Q := by
  intro σ2 e2
  have K2 := K0 e2
  have hB := hI.1
  unfold hnX hnA at hQ
  refine sm_isOn hR hB.2.2.2.2.1 (fun e => ⟨fun _ => ?_, fun z => absurd z (by decide)⟩) (fun e => ⟨fun z => absurd rfl z, fun _ => ?_⟩)
  · rw [if_pos e, if_pos e] at hQ
    refine sm_begins hR (fun σ3 μ3 W3 S3 A3 => sm_handsOver W3 (x8_XB hB) (by omega) (x8_3 hI.2.1) (fun σ4 μ4 W4 K4 => sm_told W4 ?_))
    exact hQ σ4 μ4 W4.1 (by rw [K4.1, S3 0 (by omega)]; exact K2)
  · rw [if_neg (by omega), if_neg (by omega)] at hQ
    exact hQ σ2 μ hR K2
/-! the highest bit -/
def hf73 (v0 v1 : Int32) : Int32 := v1 - ((v0).toUInt32 >>> (((1 : Int32)).toUInt32 &&& Int32.toUInt32 31)).toInt32
def hf61 (v0 v1 : Int32) : Int32 := if v0 < (4 : Int32) then hf73 v0 v1 else hf73 (((v0).toUInt32 >>> (((2 : Int32)).toUInt32 &&& Int32.toUInt32 31)).toInt32) (v1 + (-2 : Int32))
def hf48 (v0 v1 : Int32) : Int32 := if v0 < (16 : Int32) then hf61 v0 v1 else hf61 (((v0).toUInt32 >>> (((4 : Int32)).toUInt32 &&& Int32.toUInt32 31)).toInt32) (v1 + (-4 : Int32))
theorem hw61 {Q : Int32 → Prop} {v0 v1 : Int32} (h : Q (hf61 v0 v1)) : wb_J6_numberOfLeadingZeros_0f7a4_61 Q v0 v1 := by
  unfold hf61 at h
  refine ⟨fun c => ?_, fun c y1 e1 y2 e2 => ?_⟩
  · rw [if_pos c] at h; exact h
  · rw [if_neg c] at h; rw [e1, e2]; exact h
theorem hw48 {Q : Int32 → Prop} {v0 v1 : Int32} (h : Q (hf48 v0 v1)) : wb_J6_numberOfLeadingZeros_0f7a4_48 Q v0 v1 := by
  unfold hf48 at h
  refine ⟨fun c => ?_, fun c y1 e1 y2 e2 => ?_⟩
  · rw [if_pos c] at h; exact hw61 h
  · rw [if_neg c] at h; rw [e1, e2]; exact hw61 h
theorem hobk : ∀ b, b < 256 → 0 < b → nI b &&& (((-2147483648 : Int32)).toUInt32 >>> ((hf48 (nI b) 31).toUInt32 &&& Int32.toUInt32 31)).toInt32 = nI (hb8 b) := by decide +kernel
theorem hob {b : Nat} (hb : b < 256) (h0 : 0 < b) {Q : Int32 → Prop} (hQ : Q (nI (hb8 b))) : wp_J6_highestOneBit_0f7a4 (nI b) Q := by
  refine ⟨fun _ => ⟨fun _ => ⟨fun _ => hw48 ?_, fun z => absurd (nI_lt (b := 256) hb (by omega)) z⟩, fun z => absurd (nI_lt (b := 65536) (by omega) (by omega)) z⟩, fun z => absurd (nI_lt (a := 0) h0 (by omega)) z⟩
  show Q _
  rw [hobk b hb h0]; exact hQ
theorem hb8_c : ∀ b, b < 256 → nI b &&& (nI (hb8 b) ^^^ (-1 : Int32)) = nI (b - hb8 b) := by decide +kernel
theorem fzN_le (X : Nat → Nat) (s p j : Nat) : fzN X s p j ≤ j := by
  induction j with
  | zero => exact Nat.le_refl _
  | succ j ih => unfold fzN; (repeat' split) <;> omega
noncomputable def guZ (X : Nat → Nat) (s p : Nat) (Z : Zt) : Zt := wr s (p + (fzN X s p 8 - 1)) (bt X s (p + (fzN X s p 8 - 1)) - hb8 (bt X s (p + (fzN X s p 8 - 1)))) Z
theorem sm_goesUp {Z : Zt} (hW : RW σ μ Z) (hB : XB N Z.1) {s p : Nat} (hs : s < 6) (hp : p + 8 ≤ 128) {Q : Int32 → Rg → Ar → Prop} (h1 : fzN Z.1 s p 8 ≠ 0 → ∀ σ' μ', RW σ' μ' (guZ Z.1 s p Z) → FS σ σ' → FA μ μ' → Q 1 σ' μ') (h0 : fzN Z.1 s p 8 = 0 → Q 0 σ μ) {x : Int32} (hx : x = nI p) : wp_X6_goesUp σ μ (nI s) x Q := by
  subst hx
  have key : ∀ d j, j + d = 8 → fzN Z.1 s p j = 0 → wl_X6_goesUp_2 Q (d + 1) σ μ (nI s) (nI p) (nI (p + j)) := by
    intro d
    induction d with
    | zero =>
      intro j hj hz
      have e : j = 8 := by omega
      subst e
      exact pk_le (p + 8) (p + 8) (fun _ => h0 hz) (fun z => absurd z (by omega)) (by rw [show (8 : Int32) = nI 8 from rfl, nI_add]) rfl
    | succ d ih =>
      intro j hj hz
      refine pk_le (p + 8) (p + j) (fun z => absurd z (by omega)) (fun _ => ?_) (by rw [show (8 : Int32) = nI 8 from rfl, nI_add]) rfl
      have hb := hB.b (s := s) (p := p + j) hs (by omega)
      have e1 : fzN Z.1 s p (j + 1) = if bt Z.1 s (p + j) ≠ 0 then j + 1 else 0 := by
        show (if fzN Z.1 s p j ≠ 0 then _ else _) = _
        rw [if_neg (by omega)]
      refine sm_byteAt hW.1 hs (by omega) (And.comm.mp (pk_eq (bt Z.1 s (p + j)) 0 (fun z y ey => ?_) (fun z => ?_) rfl rfl))
      · rw [ey, i_p1, Nat.add_assoc]
        exact ih (j + 1) (by omega) (by rw [e1, if_neg (by omega)])
      · rw [if_pos z] at e1
        have stay : ∀ e, fzN Z.1 s p (j + 1 + e) = j + 1 := by
          intro e
          induction e with
          | zero => exact e1
          | succ e ihe =>
            show (if fzN Z.1 s p (j + 1 + e) ≠ 0 then fzN Z.1 s p (j + 1 + e) else _) = _
            rw [ihe, if_pos (by omega)]
        have e8 : fzN Z.1 s p 8 = j + 1 := by have := stay d; rw [show j + 1 + d = 8 by omega] at this; exact this
        refine hob (by omega) (by omega) ?_
        rw [hb8_c _ (by omega)]
        refine sm_writes hW hB hs (by omega) (fun σ3 μ3 W3 S3 A3 => ?_)
        refine h1 (by omega) σ3 μ3 ?_ S3 A3
        unfold guZ
        rw [e8, Nat.add_sub_cancel]; exact W3
  exact ⟨9, key 8 0 (by omega) rfl⟩
end MO
