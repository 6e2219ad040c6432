/-! the law -/
theorem lgc {a b : Int64} (h : a = b) : lg_cmp a b = 0 := by
  subst h
  have : ¬ a < a := Int64.lt_irrefl
  simp [lg_cmp, this]
theorem law_exit {L p : Nat} (hL : L ≤ 3584) (hp : p ≤ 4000) (h : L < p + 7) : Int32.ofNat L - 7 < nI p := by
  show nI L - 7 < nI p
  by_cases g : L < 7
  · have h0 : nI L - 7 < 0 := by
      rcases (show L = 0 ∨ L = 1 ∨ L = 2 ∨ L = 3 ∨ L = 4 ∨ L = 5 ∨ L = 6 by omega) with e | e | e | e | e | e | e <;> subst e <;> decide
    exact Int32.lt_of_lt_of_le h0 (nI_pos' (by omega))
  · rw [show (7 : Int32) = nI 7 from rfl, pk_sub (by omega)]
    exact nI_lt (by omega) (by omega)
theorem law_l (L : Nat) (hL : L ≤ 3584) (xs : Nat → Int32) : ∀ d p N, L ≤ p + 7 * d → p ≤ 3600 → N + 8 * d ≤ 8192 → ∀ (σ : Rg) (μ : Ar) (σb : Rg) (μb : Ar) (τ : Rg) (ν : Ar) (f : Nat → Int64) (X : Nat → Nat), RCn σ μ X → RM ν X → IX N X → JX X → wl_L_law xs L (d + 1) σ μ σb μb τ ν f (nI p) := by
  intro d
  induction d with
  | zero =>
    intro p N hp hp2 hN σ μ σb μb τ ν f X C R I J
    exact ⟨fun _ => trivial, fun z => absurd (law_exit hL (by omega) (by omega)) z⟩
  | succ d ih =>
    intro p N hp hp2 hN σ μ σb μb τ ν f X C R I J
    refine ⟨fun _ => trivial, fun z => ?_⟩
    have h7 : p + 7 ≤ L := Nat.not_lt.mp (fun g => z (law_exit hL (by omega) g))
    have h28 : N < 2 ^ 28 := by omega
    have h288 : N + 8 < 2 ^ 28 := by omega
    have h282 : N + 2 < 2 ^ 28 := by omega
    have h20 : N < 2 ^ 20 := by omega
    have go : ∀ (M : Nat) (σ1 : Rg) (μ1 : Ar) (σb1 : Rg) (μb1 : Ar) (τ1 : Rg) (ν1 : Ar) (f1 : Nat → Int64) (X1 : Nat → Nat), M ≤ N + 8 → RCn σ1 μ1 X1 → RM ν1 X1 → IX M X1 → JX X1 → wb_L_law_964 xs L (wl_L_law xs L (d + 1)) σ1 μ1 σb1 μb1 τ1 ν1 f1 (nI p) := by
      intro M σ1 μ1 σb1 μb1 τ1 ν1 f1 X1 hM C1 R1 I1 J1 y ey
      rw [ey, show (7 : Int32) = nI 7 from rfl, nI_add]
      exact ih (p + 7) (N + 8) (by omega) (by omega) (by omega) σ1 μ1 σb1 μb1 τ1 ν1 f1 X1 C1 R1 (I1.mono hM) J1
    have i1 : vp_in (nI p + 1) L := pk_in (p + 1) L (by omega) (by rw [show (1 : Int32) = nI 1 from rfl, nI_add])
    have i2 : vp_in (nI p + 2) L := pk_in (p + 2) L (by omega) (by rw [show (2 : Int32) = nI 2 from rfl, nI_add])
    have i3 : vp_in (nI p + 3) L := pk_in (p + 3) L (by omega) (by rw [show (3 : Int32) = nI 3 from rfl, nI_add])
    have i4 : vp_in (nI p + 4) L := pk_in (p + 4) L (by omega) (by rw [show (4 : Int32) = nI 4 from rfl, nI_add])
    have i5 : vp_in (nI p + 5) L := pk_in (p + 5) L (by omega) (by rw [show (5 : Int32) = nI 5 from rfl, nI_add])
    have i6 : vp_in (nI p + 6) L := pk_in (p + 6) L (by omega) (by rw [show (6 : Int32) = nI 6 from rfl, nI_add])
    refine ⟨pk_in p L (by omega) rfl, fun _ => go N σ μ σb μb τ ν f X (by omega) C R I J, fun _ => ?_, fun _ => ?_, fun _ => ?_, fun _ => ?_, fun _ => ?_, fun _ => ?_, fun _ => ?_, fun _ => ?_, fun _ => ?_, fun _ => ?_, fun _ => ?_, fun _ => ?_, fun _ => ?_, fun _ => ?_, fun _ => ?_, fun _ => ?_, fun _ => ?_, fun _ => ?_, fun _ => ?_, fun _ => ?_, fun _ => ?_, fun _ => ?_, fun _ => ?_, fun _ => ?_, fun _ => ?_, fun _ => ?_, fun _ => ?_⟩
    · exact ⟨i1, i2, cf_chip C (fun σ1 μ1 C1 => ⟨i1, i2, sm_chip R (fun τ1 ν1 R1 _ => go _ σ1 μ1 σb μb τ1 ν1 f _ (by omega) C1 R1 (chX_I I) (chX_J J))⟩)⟩
    · exact cf_on C I h28 (fun σ1 μ1 C1 => sm_on R I h28 (fun τ1 ν1 R1 _ => go _ σ1 μ1 σb μb τ1 ν1 f _ (by omega) C1 R1 (onXX_I I) (onXX_J J)))
    · exact cf_off C I (fun σ1 μ1 C1 => sm_off R I.1 (fun τ1 ν1 R1 _ => go _ σ1 μ1 σb μb τ1 ν1 f _ (by omega) C1 R1 (ofX_I I) (ofX_J J)))
    · exact ⟨i1, i2, cf_power C (fun σ1 μ1 C1 => ⟨i1, i2, sm_power R (fun τ1 ν1 R1 _ => go _ σ1 μ1 σb μb τ1 ν1 f _ (by omega) C1 R1 (pwX_I I) (pwX_J J))⟩)⟩
    · exact ⟨i1, i2, i3, cf_rot C I (fun σ1 μ1 C1 => ⟨i1, i2, i3, sm_rot R I.1 (fun τ1 ν1 R1 _ => go _ σ1 μ1 σb μb τ1 ν1 f _ (by omega) C1 R1 (rtX_I I) (rtX_J J))⟩)⟩
    · exact ⟨i1, i2, i3, cf_set C I h28 (fun σ1 μ1 C1 => ⟨i1, i2, i3, sm_set2 R I h28 (fun τ1 ν1 R1 _ => go _ σ1 μ1 σb μb τ1 ν1 f _ (by omega) C1 R1 (seX_I I) (seX_J J I))⟩)⟩
    · exact ⟨i1, cf_drop C I h28 (fun σ1 μ1 C1 => ⟨i1, sm_drop R I h28 (fun τ1 ν1 R1 _ => go _ σ1 μ1 σb μb τ1 ν1 f _ (by omega) C1 R1 (dpX_I I) (dpX_J J I))⟩)⟩
    · exact ⟨i1, cf_bump C I h28 (fun σ1 μ1 C1 => ⟨i1, sm_bump R I h28 (fun τ1 ν1 R1 _ => go _ σ1 μ1 σb μb τ1 ν1 f _ (by omega) C1 R1 (bmX_I I) (bmX_J J))⟩)⟩
    · exact cf_begin C I (fun σ1 μ1 C1 => sm_begin R I.1 (fun τ1 ν1 R1 _ => go _ σ1 μ1 σb μb τ1 ν1 f _ (by omega) C1 R1 (bgX_I I) (bgX_J J)))
    · exact cf_commit C I J h28 (fun σ1 μ1 C1 => sm_commit R I h28 (fun τ1 ν1 R1 _ => ⟨fun _ => go _ σ1 μ1 σb μb τ1 ν1 f _ (by omega) C1 R1 (cmX_I I) (cmX_J J), fun z => absurd rfl z⟩))
    · exact cf_abort C I (fun σ1 μ1 C1 => sm_abort R I.1 (fun τ1 ν1 R1 _ => go _ σ1 μ1 σb μb τ1 ν1 f _ (by omega) C1 R1 (abX_I I) (abX_J J)))
    · exact ⟨i1, cf_get C I (fun σ1 μ1 C1 => ⟨i1, sm_get R I (fun τ1 ν1 R1 _ => go _ σ1 μ1 σb μb τ1 ν1 f _ (by omega) C1 R1 I J)⟩)⟩
    · exact ⟨i1, cf_length C I (fun σ1 μ1 C1 => ⟨i1, sm_length R I (fun τ1 ν1 R1 _ => go _ σ1 μ1 σb μb τ1 ν1 f _ (by omega) C1 R1 I J)⟩)⟩
    · exact cf_hand C I h28 (fun σ1 μ1 C1 => sm_hand R I h28 (fun τ1 ν1 R1 _ => go _ σ1 μ1 σb μb τ1 ν1 f _ (by omega) C1 R1 (hnX_I I) (hnX_J J)))
    · exact ⟨i1, i2, cf_at C I (fun g => ⟨i1, i2, sm_at R I.1 (fun _ τ1 _ => go N σ μ σb μb τ1 ν _ X (by omega) C R I J) (fun _ τ1 _ => go N σ μ σb μb τ1 ν _ X (by omega) C R I J)⟩) (fun g => ⟨i1, i2, sm_at R I.1 (fun _ τ1 _ => go N σ μ σb μb τ1 ν _ X (by omega) C R I J) (fun _ τ1 _ => go N σ μ σb μb τ1 ν _ X (by omega) C R I J)⟩)⟩
    · exact ⟨i1, i2, cf_sector C I (fun σ1 μ1 C1 => ⟨i1, i2, sm_sector R I (fun τ1 ν1 R1 _ => go _ σ1 μ1 σb μb τ1 ν1 f _ (by omega) C1 R1 I J)⟩)⟩
    · exact ⟨i1, i2, i3, cf_entry C I (fun r σ1 μ1 C1 => ⟨i1, i2, i3, sm_entry R I.1 (fun r2 τ1 ν1 R1 _ => go _ σ1 μ1 σb μb τ1 ν1 f _ (by omega) C1 R1 I J)⟩)⟩
    · exact ⟨i1, i2, cf_space C I (fun σ1 μ1 C1 => ⟨i1, i2, sm_space R I.1 (fun τ1 ν1 R1 _ => go _ σ1 μ1 σb μb τ1 ν1 f _ (by omega) C1 R1 I J)⟩)⟩
    · exact ⟨i1, cf_until C I (fun σ1 μ1 C1 => ⟨i1, sm_until R I (fun τ1 ν1 R1 _ => go _ σ1 μ1 σb μb τ1 ν1 f _ (by omega) C1 R1 I J)⟩)⟩
    · exact cf_after C I (fun σ1 μ1 C1 => sm_after R I (fun τ1 ν1 R1 _ => go _ σ1 μ1 σb μb τ1 ν1 f _ (by omega) C1 R1 I J))
    · exact ⟨i1, cf_costs C I h28 (fun σ1 μ1 C1 => ⟨i1, sm_costs R I h28 (fun τ1 ν1 R1 _ => go _ σ1 μ1 σb μb τ1 ν1 f _ (by omega) C1 R1 I J)⟩)⟩
    · exact ⟨i1, i2, i3, i4, i5, i6, cf_torn C I h288 (fun r σ1 μ1 σb1 μb1 C1 e1 e0 => ⟨i1, i2, i3, i4, i5, i6, sm_torn R I h282 (fun τ1 ν1 R1 _ => go _ σ1 μ1 σb1 μb1 τ1 ν1 f _ (by omega) C1 R1 I J)⟩)⟩
    · exact ⟨i1, i2, cf_history C I (fun σ1 μ1 C1 => ⟨i1, i2, sm_history R I (fun τ1 ν1 R1 _ => go _ σ1 μ1 σb μb τ1 ν1 f _ (by omega) C1 R1 I J)⟩)⟩
    · exact ⟨i1, i2, cf_wears C I h28 (fun σ1 μ1 σb1 μb1 C1 => ⟨i1, i2, sm_wears R I h28 (fun τ1 ν1 R1 _ => go _ σ1 μ1 σb1 μb1 τ1 ν1 f _ (by omega) C1 R1 I J)⟩)⟩
    · exact ⟨i1, cf_wear C I h20 (fun r σ1 μ1 C1 e1 => ⟨i1, sm_wear R I.1 h20 (fun τ1 ν1 R1 _ => go _ σ1 μ1 σb μb τ1 ν1 f _ (by omega) C1 R1 I J)⟩)⟩
    · exact cf_tags C I (fun σ1 μ1 C1 => sm_tags R I (fun τ1 ν1 R1 _ => go _ σ1 μ1 σb μb τ1 ν1 f _ (by omega) C1 R1 I J))
    · exact ⟨i1, cf_count C I (fun σ1 μ1 C1 => ⟨i1, sm_count R I.1 (fun τ1 ν1 R1 _ => go _ σ1 μ1 σb μb τ1 ν1 f _ (by omega) C1 R1 I J)⟩)⟩
theorem init_st : ∀ {Q : Rg → Ar → Prop}, (∀ σ μ, RCn σ μ (nwX 3 64) → Q σ μ) → wp_X4_init Q := by
  intro Q hQ
  refine sc_renew1 (s := 3) (b := 64) (by omega) (by omega) (fun σ1 μ1 S1 B1 h7 f1 => hQ σ1 μ1 ?_) rfl rfl
  exact nw_RCn S1 B1 (f1 1 (by omega)) (f1 0 (by omega)) h7 (f1 15 (by omega))
theorem law_holds (L : Nat) (hL : L ≤ 3584) (xs : Nat → Int32) : wp_law L xs := by
  refine init_st (fun σ μ C => init_st (fun σb μb _ => ?_))
  refine sm_makes (X := fun _ => 0) (fun k hk => rfl) (s := 3) (b := 64) (fun ν R => ⟨513, by omega, ?_⟩)
  exact law_l L hL xs 512 0 0 (by omega) (by omega) (by omega) σ μ σb μb _ ν _ (nwX 3 64) C R (nwX_I (by omega) (by omega) (by omega) (by omega)) (jx_0 (nwX_lo (by omega) (by omega) (by omega)))
