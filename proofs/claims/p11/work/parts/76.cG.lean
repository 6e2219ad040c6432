/-! theirs: a handover -/
def FHs (σ σ' : Rg) : Prop := ∀ k, k ≠ 0 → k ≠ 1 → k ≠ 5 → k ≠ 6 → k ≠ 7 → k ≠ 8 → k ≠ 10 → k ≠ 17 → k ≠ 18 → σ' k = σ k
def FHm (μ μ' : Ar) : Prop := ∀ k, 2 ≤ k → k ≠ 12 → μ' k = μ k
section CG
variable {σ : Rg} {μ : Ar} {X : Nat → Nat} {N k : Nat}
theorem tn_l2i (w : Nat) (h : w < 2 ^ 32) : tn ((lN w).toInt32) = w := by
  show ((BitVec.ofNat 64 w).signExtend 32).toNat = w
  rw [BitVec.signExtend_eq_setWidth_of_le _ (by omega), BitVec.toNat_setWidth, BitVec.toNat_ofNat]
  omega
theorem kd_st (hB : XB N X) {s t : Nat} (h : nwt X s t ≠ 0) (h32 : t < 32) : kd X s (ps X s (nwt X s t - 1)) ≠ 1 := by
  obtain ⟨hi, h3, _, ht⟩ := nwt_i hB h
  have h4 := (ent hB hi).2.1
  obtain ⟨_, e⟩ := kd_ok (X := X) (s := s) (p := ps X s (nwt X s t - 1)) (by omega)
  rw [ht] at e
  rw [e]
  unfold kdf
  (repeat' split) <;> omega
theorem eB_le14 (X : Nat → Nat) (s t i : Nat) : (eB X s t i).length ≤ if kd X s (ps X s i) = 1 then 14 else 3 + ln X s i := eB_len X s t i
theorem sc_handOver {Z : Zt} (hZ : RZ k σ μ Z) (hB : XB N Z.1) (hN : N < 2 ^ 29) (h3 : Z.1 3 < Z.1 0) (h0 : σ 0 = nI (Z.1 3)) (h1 : σ 1 = nI (Z.1 7)) (hD : RDc Z.1 (Z.1 3) σ μ) {Q : Rg → Ar → Prop} (hQ : ∀ σ' μ', RZ k σ' μ' (hoZ Z) → σ' 0 = nI ((hoZ Z).1 3) → σ' 1 = nI ((hoZ Z).1 7) → FHs σ σ' → FHm μ μ' → Q σ' μ') : wp_X4_handOver σ μ Q := by
  have b0 := hB.1
  have b6 := hB.2.1
  have b32 := hB.2.2.1
  have b1 := hB.2.2.2.1
  have hh := hon_s hB (b := Z.2)
  have hhn : hon Z < Z.1 0 ∧ hon Z ≠ Z.1 3 := hh
  have B1 : XB (N + 1) (ho1 Z).1 := ho1_XB hB
  have B2 : XB (N + 1) (ho2 Z).1 := mkr_XB B1
  have f7 : fq 7 := by unfold fq; omega
  -- behind the copies
  have fin : ∀ σ1 μ1, RZ k σ1 μ1 (ho3 Z) → σ1 0 = nI (Z.1 3) → σ1 1 = nI (Z.1 7) → FHs σ σ1 → FHm μ μ1 → ∀ y, wl_X4_handOver_59 Q 1 σ1 μ1 (nI (hon Z)) y (nI 48) := by
    intro σ1 μ1 Z1 a0 a1 fs fm y
    have B3 : XB (N + 1) (ho3 Z).1 := hoN_XB B2 48
    have e0 : (ho3 Z).1 0 = Z.1 0 := by unfold ho3; rw [hoN_far fq0, ho2_far fq0]
    have e1 : (ho3 Z).1 1 = Z.1 1 := by unfold ho3; rw [hoN_far fq1, ho2_far fq1]
    have e7 : (ho4 Z).1 7 = Z.1 7 := ho4_far f7
    refine pk_le 48 48 (fun _ => ?_) (fun z => absurd z (by omega)) rfl rfl
    refine sc_write Z1 B3 (s := hon Z) (p := 0) (v := 63) (by rw [e0]; exact hhn.1) (by rw [e1]; omega) (fun σ2 μ2 Z2 F2 => ?_) rfl rfl rfl
    have c0 : σ2 0 = nI (Z.1 3) := by rw [F2.1 0 (by omega) (by omega) (by omega) (by omega) (by omega)]; exact a0
    refine sc_erase Z2 (wr_XB B3) (s := Z.1 3) (by rw [wr_01.1, e0]; exact h3) (fun σ3 μ3 Z3 F3 => ?_) c0
    change RZ k σ3 μ3 (ho4 Z) at Z3
    have F := F2.tr F3
    have fs3 : FHs σ σ3 := fun q q0 q1 q5 q6 q7 q8 q10 q17 q18 => by rw [F.1 q q5 q6 q7 q8 q10]; exact fs q q0 q1 q5 q6 q7 q8 q10 q17 q18
    have fm3 : FHm μ μ3 := fun q h2 h12 => by rw [F.2 q h2]; exact fm q h2 h12
    have d0 : σ3 0 = nI (Z.1 3) := by rw [F.1 0 (by omega) (by omega) (by omega) (by omega) (by omega)]; exact a0
    have d1 : σ3 1 = nI (Z.1 7) := by rw [F.1 1 (by omega) (by omega) (by omega) (by omega) (by omega)]; exact a1
    have h7 := Z3.2.2
    cases hz : (ho4 Z).2 with
    | true =>
      rw [hz] at h7
      have ez : hoZ Z = ho4 Z := by unfold hoZ; rw [if_pos hz]
      refine ⟨fun _ => ?_, fun z => absurd h7 z⟩
      refine hQ σ3 μ3 (by rw [ez]; exact Z3) (by rw [ez, ho4_far fq3]; exact d0) (by rw [ez, e7]; exact d1) fs3 fm3
    | false =>
      have ez : hoZ Z = (ux (ux (ho4 Z).1 3 (hon Z)) 7 ((ho4 Z).1 7 + 1), false) := by unfold hoZ; rw [if_neg (by rw [hz]; decide)]
      refine ⟨fun z => absurd z (s7_ne h7 hz), fun _ σ4 e4 σ5 e5 => ?_⟩
      have s5 : ∀ q, q ≠ 0 → q ≠ 1 → σ5 q = σ3 q := fun q q0 q1 => by rw [e5, up_n q1, e4, up_n q0]
      have u : ∀ q, q ≠ 3 → q ≠ 7 → (hoZ Z).1 q = (ho4 Z).1 q := fun q q3 q7 => by rw [ez]; show ux (ux _ _ _) _ _ q = _; rw [ux_n q7, ux_n q3]
      obtain ⟨⟨⟨a3, a4, a5, a8, a9, a10⟩, hb⟩, k6, k7⟩ := Z3
      refine hQ σ5 μ3 ⟨⟨⟨?_, ?_, ?_, ?_, ?_, ?_⟩, ⟨fun s p q1 q2 => ?_, fun s q1 => ?_⟩⟩, ?_, ?_⟩ ?_ ?_ ?_ fm3
      · rw [s5 _ (by omega) (by omega), u _ (by omega) (by omega)]; exact a3
      · rw [s5 _ (by omega) (by omega), u _ (by omega) (by omega)]; exact a4
      · rw [s5 _ (by omega) (by omega), u _ (by omega) (by omega)]; exact a5
      · rw [s5 _ (by omega) (by omega), u _ (by omega) (by omega)]; exact a8
      · rw [s5 _ (by omega) (by omega), u _ (by omega) (by omega)]; exact a9
      · rw [s5 _ (by omega) (by omega), u _ (by omega) (by omega)]; exact a10
      · rw [u _ (by omega) (by omega)] at q1
        rw [u _ (by omega) (by omega)] at q2 ⊢
        unfold bt
        rw [u _ (by omega) (by omega)]; exact hb.1 s p q1 q2
      · rw [u _ (by omega) (by omega)] at q1
        rw [u _ (by omega) (by omega)]; exact hb.2 s q1
      · rw [s5 _ (by omega) (by omega), u _ (by omega) (by omega)]; exact k6
      · rw [s5 _ (by omega) (by omega), k7, hz, ez]
      · rw [e5, up_n (by omega), e4, up_s, ez]; dsimp only; rw [ux_n (by omega), ux_s]
      · rw [e5, up_s, e4, up_n (by omega), d1, i_p1, ez]; dsimp only; rw [ux_s, e7]
      · exact fun q q0 q1 q5 q6 q7 q8 q10 q17 q18 => by rw [s5 q q0 q1]; exact fs3 q q0 q1 q5 q6 q7 q8 q10 q17 q18
  -- the copies
  have lp : ∀ d t, t + d = 48 → ∀ σ1 μ1, RZ k σ1 μ1 (hoN Z.1 (Z.1 3) (hon Z) t (ho2 Z)) → σ1 0 = nI (Z.1 3) → σ1 1 = nI (Z.1 7) → FHs σ σ1 → FHm μ μ1 → wl_X4_handOver_59 Q (d + 1) σ1 μ1 (nI (hon Z)) (nI (szN Z.1 (Z.1 3) t)) (nI t) := by
    intro d
    induction d with
    | zero =>
      intro t ht σ1 μ1 Z1 a0 a1 fs fm
      have et : t = 48 := by omega
      subst et
      exact fin σ1 μ1 Z1 a0 a1 fs fm _
    | succ d ih =>
      intro t ht σ1 μ1 Z1 a0 a1 fs fm
      have D1 : RDc Z.1 (Z.1 3) σ1 μ1 := hD.fd (fun q _ _ => fs q (by omega) (by omega) (by omega) (by omega) (by omega) (by omega) (by omega) (by omega) (by omega)) (fun q _ _ => fm q (by omega) (by omega))
      refine pk_le 48 t (fun z => absurd z (by omega)) (fun _ => ?_) rfl rfl
      refine sc_hasValue hB D1 (by omega) (fun g => ⟨fun _ => ?_, fun z => absurd z (by decide)⟩) (fun g => ⟨fun z => absurd rfl z, fun _ y ey => ?_⟩) rfl
      rotate_left
      · rw [ey, i_p1]
        have := ih (t + 1) (by omega) σ1 μ1 (by rw [hoN_no g]; exact Z1) a0 a1 fs fm
        rw [szN_no g] at this
        exact this
      obtain ⟨hi, hk3, _, _⟩ := nwt_i hB g.1
      have hv32 := vlN_lt hB (s := Z.1 3) (by omega) hi hk3
      have hszle := szN_le hB (Z.1 3) (t + 1)
      have hlen := eB_len Z.1 (Z.1 3) t (nwt Z.1 (Z.1 3) t - 1)
      have hszt := szN_hv g
      have B3 : XB (N + 1) (hoN Z.1 (Z.1 3) (hon Z) t (ho2 Z)).1 := hoN_XB B2 t
      have e0 : (hoN Z.1 (Z.1 3) (hon Z) t (ho2 Z)).1 0 = Z.1 0 := by rw [hoN_far fq0, ho2_far fq0]
      have e1 : (hoN Z.1 (Z.1 3) (hon Z) t (ho2 Z)).1 1 = Z.1 1 := by rw [hoN_far fq1, ho2_far fq1]
      -- the draft is written
      have c136 : ∀ σ2 μ2, DR (eB Z.1 (Z.1 3) t (nwt Z.1 (Z.1 3) t - 1)) σ2 μ2 → FR σ1 μ1 σ2 μ2 → wb_X4_handOver_136 Q (wl_X4_handOver_59 Q (d + 1)) σ2 μ2 (nI (hon Z)) (nI (szN Z.1 (Z.1 3) t)) (nI t) := by
        intro σ2 μ2 D2 F2
        refine sc_writeDraft D2 (Z1.fr F2) B3 (s := hon Z) (p := szN Z.1 (Z.1 3) t) (by rw [e0]; exact hhn.1) (by rw [e1]; omega) (fun σ3 μ3 Z3 F3 => ?_) rfl rfl
        have st : ∀ v : Int32, v = nI (if kd Z.1 (Z.1 3) (ps Z.1 (Z.1 3) (nwt Z.1 (Z.1 3) t - 1)) = 1 then 14 else 3 + ln Z.1 (Z.1 3) (nwt Z.1 (Z.1 3) t - 1)) → wb_X4_handOver_168 Q (wl_X4_handOver_59 Q (d + 1)) σ3 μ3 (nI (hon Z)) (nI t) v (nI (szN Z.1 (Z.1 3) t)) := by
          intro v ev y ey y2 ey2
          rw [ev, nI_add, ← hszt] at ey
          rw [ey, ey2, i_p1]
          refine ih (t + 1) (by omega) σ3 μ3 (by rw [hoN_hv g]; exact Z3) ?_ ?_ ?_ ?_
          · rw [F3.1 0 (by omega) (by omega) (by omega) (by omega) (by omega), F2.1 0 (by omega) (by omega)]; exact a0
          · rw [F3.1 1 (by omega) (by omega) (by omega) (by omega) (by omega), F2.1 1 (by omega) (by omega)]; exact a1
          · intro q q0 q1 q5 q6 q7 q8 q10 q17 q18
            rw [F3.1 q q5 q6 q7 q8 q10, F2.1 q q17 q18]; exact fs q q0 q1 q5 q6 q7 q8 q10 q17 q18
          · intro q h2 h12
            rw [F3.2 q h2, F2.2 q h12]; exact fm q h2 h12
        refine pk_le 32 t (fun g32 => st 14 ?_) (fun g32 => st _ ?_) rfl rfl
        · rw [if_pos (kd_ct hB g.1 g32)]; rfl
        · have k1 := kd_st hB g.1 g32
          rw [(D2.fd F3).1, if_neg k1]
          unfold eB; rw [if_neg k1, sB_len]
      refine sc_newestOf D1 (by omega) (sc_valueOf hB (by omega) D1 hi hk3 (fun y ey => ?_) (nwI_some g.1)) rfl
      have el : vlL Z.1 (Z.1 3) (nwt Z.1 (Z.1 3) t - 1) = lN (vlN Z.1 (Z.1 3) (nwt Z.1 (Z.1 3) t - 1)) := by
        unfold vlL; rw [if_neg (by have := g.2; omega)]
      rw [el] at ey
      refine pk_le 32 t (fun g32 => ?_) (fun g32 => ?_) rfl rfl
      · have k1 := kd_ct hB g.1 g32
        have hw := hv32.2 k1
        rw [l2i _ hw] at ey
        refine sc_fillCounter hw (by omega) (fun σ2 μ2 D2 F2 => c136 σ2 μ2 ?_ F2) rfl ey
        unfold eB; rw [if_pos k1]; exact D2
      · have k1 := kd_st hB g.1 g32
        have hl4 := ((ent hB hi).2.2.2.2.1 (by have := (ent hB hi).2.1; omega)).2
        refine sc_newestLength hB D1 (by omega) ?_ rfl
        rw [if_neg g.1]
        refine sc_fillSetting (a := 16) hl4 (by omega) (fun σ2 μ2 D2 F2 => c136 σ2 μ2 ?_ F2) rfl rfl rfl
        rw [ey, tn_l2i _ hv32.1] at D2
        unfold eB; rw [if_neg k1]; exact D2
  -- the next one is made ready
  have c31 : ∀ σ1 μ1, RZ k σ1 μ1 (ho1 Z) → FD σ μ σ1 μ1 → wb_X4_handOver_31 Q σ1 μ1 (nI (hon Z)) := by
    intro σ1 μ1 Z1 F1
    have e0 : (ho1 Z).1 0 = Z.1 0 := ho1_far fq0
    have e1 : (ho1 Z).1 1 = Z.1 1 := ho1_far fq1
    have a0 : σ1 0 = nI (Z.1 3) := by rw [F1.1 0 (by omega) (by omega) (by omega) (by omega) (by omega)]; exact h0
    have en : nb (ho1 Z).1 (Z.1 3) = nb Z.1 (Z.1 3) := by
      have o : ∀ q, q < 128 → bt (ho1 Z).1 (Z.1 3) q = bt Z.1 (Z.1 3) q := fun q hq => by
        unfold ho1 itp
        split
        · rfl
        · exact er_o hB (fun c => hhn.2 c.symm) (by omega) hq
      unfold nb; rw [o 1 (by omega), o 2 (by omega)]
    have hnb := nb_le hB (s := Z.1 3) (by omega)
    refine sc_numberOf Z1.1.1 Z1.1.2 B1 (s := Z.1 3) (by rw [e0]; exact h3) ?_ a0
    rw [en]
    refine sc_makeReady Z1 B1 (s := hon Z) (n := (nb Z.1 (Z.1 3) + 1) % 65536) (by rw [e0]; exact hhn.1) (by omega) (fun σ2 μ2 Z2 F2 => ⟨49, ?_⟩) rfl ?_
    · exact i_rem (nb Z.1 (Z.1 3) + 1) 65536 (by omega) (by omega) (by omega) (i_p1 _) rfl
    · have F := F1.tr F2
      refine lp 48 0 (by omega) σ2 μ2 Z2 ?_ ?_ ?_ ?_
      · rw [F.1 0 (by omega) (by omega) (by omega) (by omega) (by omega)]; exact h0
      · rw [F.1 1 (by omega) (by omega) (by omega) (by omega) (by omega)]; exact h1
      · exact fun q q0 q1 q5 q6 q7 q8 q10 q17 q18 => F.1 q q5 q6 q7 q8 q10
      · exact fun q h2 h12 => F.2 q h2
  refine sc_leastErased hZ.1.1 hZ.1.2 hB (by omega) (u := Z.1 3) (fun j hj => by rw [h0]; exact nI_eq (by omega) (by omega)) ?_
  change wp_X1_isBlank σ μ (nI (hon Z)) _
  refine sc_isBlank hZ.1.1 hZ.1.2 hB (s := hon Z) hhn.1 (fun g => ⟨fun _ => c31 σ μ ?_ FD.rf, fun z => absurd z (by decide)⟩) (fun g => ⟨fun z => absurd rfl z, fun _ => ?_⟩) rfl
  · unfold ho1; rw [itp_pos g]; exact hZ
  · refine sc_erase hZ hB (s := hon Z) hhn.1 (fun σ1 μ1 Z1 F1 => c31 σ1 μ1 ?_ F1) rfl
    unfold ho1; rw [itp_neg g]; exact Z1
end CG
