/-! theirs: switching on, a new chip; its face, what changes it -/
def bcI (x1 : Int64) : Int32 := (fun y9 : Int64 => (fun y23 : Int64 => (fun y33 : Int64 => (fun y40 : Int64 => (fun y47 : Int64 => (fun y54 : Int64 => (y54).toInt32 &&& (127 : Int32)) (y47 + ((y47).toUInt64 >>> (((32 : Int32)).toInt64.toUInt64 &&& Int64.toUInt64 63)).toInt64)) (y40 + ((y40).toUInt64 >>> (((16 : Int32)).toInt64.toUInt64 &&& Int64.toUInt64 63)).toInt64)) (y33 + ((y33).toUInt64 >>> (((8 : Int32)).toInt64.toUInt64 &&& Int64.toUInt64 63)).toInt64)) ((y23 + ((y23).toUInt64 >>> (((4 : Int32)).toInt64.toUInt64 &&& Int64.toUInt64 63)).toInt64) &&& (1085102592571150095 : Int64))) ((y9 &&& (3689348814741910323 : Int64)) + (((y9).toUInt64 >>> (((2 : Int32)).toInt64.toUInt64 &&& Int64.toUInt64 63)).toInt64 &&& (3689348814741910323 : Int64)))) (x1 - (((x1).toUInt64 >>> (((1 : Int32)).toInt64.toUInt64 &&& Int64.toUInt64 63)).toInt64 &&& (6148914691236517205 : Int64)))
noncomputable def onB (X : Nat → Nat) : Int32 := if X 2 = 0 then (if (onZ X).2 = true then -3 else bcI (tgN (onZ X).1 ((onZ X).1 3) 48)) else -1
def seG (X : Nat → Nat) (x1 x3 : Int32) : Prop := X 2 = 1 ∧ tn x1 ≤ 31 ∧ 1 ≤ tn x3 ∧ tn x3 ≤ 4
noncomputable def seX (X : Nat → Nat) (x1 v x3 : Int32) : Nat → Nat := itp (seG X x1 x3) (ssX X (tn x1) (tn x3) v) X
noncomputable def seA (X : Nat → Nat) (x1 v x3 : Int32) : Int32 := itp (seG X x1 x3) (ssA X (tn x1) (tn x3) v) (-1)
section CK
variable {σ : Rg} {μ : Ar} {X : Nat → Nat} {N k : Nat}
theorem sc_bitCount {x : Int64} {Q : Int32 → Prop} (hQ : Q (bcI x)) : wp_J13_bitCount_95d88 x Q := by
  intro y9 e9 y23 e23 y33 e33 y40 e40 y47 e47 y54 e54
  subst e9 e23 e33 e40 e47 e54
  exact hQ
theorem sm_set2 (hR : RM μ X) (hI : IX N X) (hN : N < 2 ^ 28) {x1 v x3 : Int32} {Q : Int32 → Rg → Ar → Prop} (hQ : ∀ σ' μ', RM μ' (seX X x1 v x3) → σ' 0 = 0 → Q (seA X x1 v x3) σ' μ') : wp_X6_set σ μ x1 v x3 Q := by
  refine sm_set hR hI hN (fun t n ht hn0 hn et en h2 σ' μ' R' _ k' => ?_) (fun c σ' k' => ?_)
  · have tt : tn x1 = t := by rw [et]; exact tn_nI (by omega)
    have tn3 : tn x3 = n := by rw [en]; exact tn_nI (by omega)
    have g : seG X x1 x3 := ⟨h2, by omega, by omega, by omega⟩
    have := hQ σ' μ' (by unfold seX; rw [itp_pos g, tt, tn3]; exact R') k'
    unfold seA at this; rw [itp_pos g, tt, tn3] at this; exact this
  · have g : ¬ seG X x1 x3 := fun g => c ⟨g.1, ⟨tn x1, g.2.1, tn_e x1⟩, tn x3, g.2.2.1, g.2.2.2, tn_e x3⟩
    have := hQ σ' μ (by unfold seX; rw [itp_neg g]; exact hR) k'
    unfold seA at this; rw [itp_neg g] at this; exact this
theorem seX_I {x1 v x3 : Int32} (hI : IX N X) : IX (N + 2) (seX X x1 v x3) := by
  unfold seX itp
  split
  · rename_i g; exact ssX_I hI g.2.1 g.2.2.2
  · exact hI.mono (by omega)
theorem RCs.up {j : Nat} {v : Int32} (h : RCs σ X) (hj : j ≠ 3 ∧ j ≠ 4 ∧ j ≠ 5 ∧ j ≠ 8 ∧ j ≠ 9 ∧ j ≠ 10) : RCs (upd σ j v) X := by
  obtain ⟨a3, a4, a5, a8, a9, a10⟩ := h
  exact ⟨by rw [up_n (by omega)]; exact a3, by rw [up_n (by omega)]; exact a4, by rw [up_n (by omega)]; exact a5, by rw [up_n (by omega)]; exact a8, by rw [up_n (by omega)]; exact a9, by rw [up_n (by omega)]; exact a10⟩
theorem RCs.fs {σ' : Rg} (h : RCs σ X) (f : ∀ q, q = 3 ∨ q = 4 ∨ q = 5 ∨ q = 8 ∨ q = 9 ∨ q = 10 → σ' q = σ q) : RCs σ' X := by
  obtain ⟨a3, a4, a5, a8, a9, a10⟩ := h
  exact ⟨by rw [f _ (by omega)]; exact a3, by rw [f _ (by omega)]; exact a4, by rw [f _ (by omega)]; exact a5, by rw [f _ (by omega)]; exact a8, by rw [f _ (by omega)]; exact a9, by rw [f _ (by omega)]; exact a10⟩
theorem RCs.xs {Y : Nat → Nat} (h : RCs σ X) (f : ∀ q, q = 0 ∨ q = 1 ∨ q = 9 ∨ q = 4 ∨ q = 5 ∨ q = 6 → Y q = X q) : RCs σ Y := by
  obtain ⟨a3, a4, a5, a8, a9, a10⟩ := h
  exact ⟨by rw [f _ (by omega)]; exact a3, by rw [f _ (by omega)]; exact a4, by rw [f _ (by omega)]; exact a5, by rw [f _ (by omega)]; exact a8, by rw [f _ (by omega)]; exact a9, by rw [f _ (by omega)]; exact a10⟩
theorem RZ.on {Z : Zt} {s : Nat} (h : RZ k σ μ Z) : RZ k σ μ (onX s Z) := by
  unfold onX
  split
  · exact h
  · rename_i hz
    obtain ⟨⟨hS, hb⟩, h6, h7⟩ := h
    have hf : Z.2 = false := by cases g : Z.2 with
      | true => exact absurd g hz
      | false => rfl
    have u : ∀ q, q ≠ 2 → q ≠ 3 → ux (ux Z.1 2 1) 3 s q = Z.1 q := fun q a b => by rw [ux_n b, ux_n a]
    refine ⟨⟨hS.xs (fun q hq => u q (by omega) (by omega)), hb.ex (u 0 (by omega) (by omega)) (u 1 (by omega) (by omega)) (fun q hq => u q (by omega) (by omega))⟩, ?_, ?_⟩
    · dsimp only; rw [u 8 (by omega) (by omega)]; exact h6
    · rw [h7, hf]
theorem RC.z2 (hS : RCs σ X) (hb : RCb μ X) {σ' : Rg} (f : ∀ q, q ≠ 6 → q ≠ 7 → σ' q = σ q) (h6 : σ' 6 = 0) (h7 : σ' 7 = 1) : RZ 0 σ' μ (ux X 8 0, false) := by
  refine ⟨⟨(hS.fs (fun q hq => f q (by omega) (by omega))).xs (fun q hq => ux_n (by omega)), hb.ex (show ux X 8 0 0 = X 0 from ux_n (by omega)) (show ux X 8 0 1 = X 1 from ux_n (by omega)) (fun q hq => show ux X 8 0 q = X q from ux_n (by omega))⟩, ?_, h7⟩
  dsimp only; rw [ux_s]; exact h6
theorem sc_switchOn (hS : RCs σ X) (hb : RCb μ X) (h1 : σ 1 = nI (X 7)) (hch : RCh X σ μ) (hI : IX N X) (hN : N < 2 ^ 28) {Q : Int32 → Rg → Ar → Prop} (hQ : ∀ σ' μ', RCn σ' μ' (onZ X).1 → ((onZ X).2 = false → σ' 6 = nI ((onZ X).1 8)) → Q (if (onZ X).2 = true then -3 else bcI (tgN (onZ X).1 ((onZ X).1 3) 48)) σ' μ') : wp_X4_switchOn σ μ Q := by
  have hB := hI.1
  have b0 := hB.1
  have b6 := hB.2.1
  have b32 := hB.2.2.1
  have h3 := hI.2.1
  have hZB : XB N (ux X 8 0) := x8_XB hB
  have h30 := x8_3 h3
  have u0 : (ux X 8 0) 0 = X 0 := ux_n (by omega)
  have u7 : (ux X 8 0) 7 = X 7 := ux_n (by omega)
  intro σ1 e1 σ2 e2
  have f2 : ∀ q, q ≠ 6 → q ≠ 7 → σ2 q = σ q := fun q q6 q7 => by rw [e2, up_n q6, e1, up_n q7]
  have Z2 : RZ 0 σ2 μ (ux X 8 0, false) := RC.z2 hS hb f2 (by rw [e2, up_s]) (by rw [e2, up_n (by omega), e1, up_s])
  have x2 : FX σ μ σ2 μ := ⟨f2 _ (by omega) (by omega), f2 _ (by omega) (by omega), fun _ _ _ => rfl⟩
  have c66 : ∀ (s : Nat) (Zp : Zt) σ3 μ3, RZ 0 σ3 μ3 Zp → XB (N + 6) Zp.1 → s < Zp.1 0 → σ3 1 = nI (X 7) → FX σ μ σ3 μ3 → GZ (ux X 8 0, false) Zp → DN X Zp.1 → Zp.1 7 = X 7 → onZ X = onX s Zp → wb_X4_switchOn_66 Q σ3 μ3 (nI s) := by
    intro s Zp σ3 μ3 Z3 BP hs g1 x3 G dn e7 eo σ4 e4
    rw [eo] at hQ
    have Z4 : RZ 0 σ4 μ3 (onX s Zp) := (Z3.f2 (σ' := σ4) (fun q q1 q2 => by rw [e4, up_n (by omega)])).on
    have BO : XB (N + 6) (onX s Zp).1 := onX_XB BP
    have o0 : (onX s Zp).1 0 = Zp.1 0 := by
      unfold onX
      split
      · rfl
      · dsimp only; rw [ux_n (by omega), ux_n (by omega)]
    have o7 : (onX s Zp).1 7 = X 7 := by
      unfold onX
      split
      · exact e7
      · dsimp only; rw [ux_n (by omega), ux_n (by omega)]; exact e7
    refine sc_scan Z4.1.1 Z4.1.2 BO (s := s) (by rw [o0]; exact hs) (fun σ5 μ5 f5 g5 D5 => ?_) (by rw [e4, up_s])
    refine sc_valuedTags BO D5 (sc_bitCount ?_)
    have Z5 := Z4.fc f5 g5
    have x5 : FX σ μ σ5 μ5 := x3.tr (FX.tr ⟨by rw [e4, up_n (by omega)], by rw [e4, up_n (by omega)], fun _ _ _ => rfl⟩ (FX.fc f5 g5))
    have s0 : σ5 0 = nI s := by rw [f5 0 (by omega) (by omega) (by omega) (by omega), e4, up_s]
    have s1 : σ5 1 = nI (X 7) := by rw [f5 1 (by omega) (by omega) (by omega) (by omega), e4, up_n (by omega)]; exact g1
    cases hz : Zp.2 with
    | true =>
      have eo2 : onX s Zp = Zp := by unfold onX; rw [if_pos hz]
      obtain ⟨g2, g10⟩ := G.1 hz nff
      rw [eo2] at hQ Z5
      rw [hz] at hQ
      have h7 : σ5 7 = 0 := by rw [Z5.2.2, hz]; rfl
      refine ⟨fun _ => sc_switchOff (fun σ' c0 c7 c15 cf => ?_), fun z => absurd h7 z⟩
      refine hQ σ' μ5 ⟨⟨Z5.1.1.fs (fun q hq => cf q (by omega) (by omega) (by omega) (by omega)), Z5.1.2⟩, ?_, fun c => absurd (g2.symm.trans c) (by decide), fun _ => ⟨c0, c7⟩, fun c => absurd (g10.symm.trans c) (by decide), fun _ => c15⟩ (fun c => absurd c (by decide))
      rw [cf 1 (by omega) (by omega) (by omega) (by omega), e7]; exact s1
    | false =>
      have eo2 : onX s Zp = (ux (ux Zp.1 2 1) 3 s, false) := by unfold onX; rw [if_neg (by rw [hz]; decide)]
      obtain ⟨_, g2, g10⟩ := G.2 hz
      have e3' : (onX s Zp).1 3 = s := by rw [eo2]; dsimp only; rw [ux_s]
      have e2' : (onX s Zp).1 2 = 1 := by rw [eo2]; dsimp only; rw [ux_n (by omega), ux_s]
      have ez : (onX s Zp).2 = false := by rw [eo2]
      have h7 : σ5 7 = 1 := by rw [Z5.2.2, ez]; rfl
      rw [ez, e3'] at hQ
      refine ⟨fun z => absurd (h7.symm.trans z) (by decide), fun _ => ?_⟩
      refine hQ σ5 μ5 ⟨Z5.1, by rw [o7]; exact s1, fun _ => ⟨by rw [e3']; exact s0, h7⟩, fun c => absurd (e2'.symm.trans c) (by decide), ?_⟩ (fun _ => by rw [Z5.2.1, Nat.zero_add])
      refine (hch.fx x5).ch ?_ (fun q q1 q2 => ?_) (h11_of hI)
      · rw [eo2]; dsimp only; rw [ux_n (by omega), ux_n (by omega), g10]; dsimp only; rw [ux_n (by omega)]
      · rw [eo2]; dsimp only; rw [ux_n (by omega), ux_n (by omega)]; exact dn.1 q q1 q2
  refine sc_greatestActive Z2.1.1 Z2.1.2 hZB ?_
  have hfl := fdN_le (ux X 8 0) ((ux X 8 0) 0)
  have dn0 : DN X (ux X 8 0) := dn_ux (by omega)
  have f7 : fq 7 := by unfold fq; omega
  by_cases hf : fdN (ux X 8 0) ((ux X 8 0) 0) = 0
  · rw [hf]
    refine sc_eraseAllBut Z2 hZB (u := 9) (fun j hj => ⟨fun z => absurd (by rw [z]; decide) (nI_pos (n := j) (by omega)), fun z => absurd z (by omega)⟩) (fun σ3 μ3 Z3 F3 => ⟨fun z => absurd rfl z, fun _ => ?_⟩)
    dsimp only at Z3
    have B3 : XB (N + 6) (eoN 9 ((ux X 8 0) 0) (ux X 8 0, false)).1 := (eoN_XB (u := 9) (Z := (ux X 8 0, false)) hZB ((ux X 8 0) 0) (by omega)).mono (by omega)
    have l0 : (eoN 9 ((ux X 8 0) 0) (ux X 8 0, false)).1 0 = X 0 := by rw [eoN_far fq0]; exact u0
    refine sc_leastErased Z3.1.1 Z3.1.2 B3 (by omega) (u := 9) (fun j hj => ⟨fun z => absurd (by rw [z]; decide) (nI_pos (n := j) (by omega)), fun z => absurd z (by omega)⟩) ?_
    rw [l0]
    have hll := leN_le (eoN 9 ((ux X 8 0) 0) (ux X 8 0, false)).1 9 (X 0)
    have eo : onZ X = onX (leN (eoN 9 ((ux X 8 0) 0) (ux X 8 0, false)).1 9 (X 0) - 1) (wr (leN (eoN 9 ((ux X 8 0) 0) (ux X 8 0, false)).1 9 (X 0) - 1) 0 63 (mkr (leN (eoN 9 ((ux X 8 0) 0) (ux X 8 0, false)).1 9 (X 0) - 1) 1 (eoN 9 ((ux X 8 0) 0) (ux X 8 0, false)))) := by
      unfold onZ swZ
      dsimp only
      rw [if_pos hf, u0]
    have hs : leN (eoN 9 ((ux X 8 0) 0) (ux X 8 0, false)).1 9 (X 0) - 1 < X 0 := by omega
    generalize leN (eoN 9 ((ux X 8 0) 0) (ux X 8 0, false)).1 9 (X 0) - 1 = s at eo hs ⊢
    refine sc_makeReady Z3 B3 (s := s) (n := 1) (by rw [l0]; exact hs) (by omega) (fun σ4 μ4 Z4 F4 => ?_) rfl rfl
    refine sc_write Z4 (mkr_XB B3) (s := s) (p := 0) (v := 63) (by rw [mkr_far fq0, l0]; exact hs) (by rw [mkr_far fq1, eoN_far fq1]; dsimp only; rw [ux_n (by omega)]; omega) (fun σ5 μ5 Z5 F5 => ?_) rfl rfl rfl
    have F := F3.tr (F4.tr F5)
    refine c66 s _ σ5 μ5 Z5 (wr_XB (mkr_XB B3)) (by rw [wr_01.1, mkr_far fq0, l0]; exact hs) ?_ (x2.tr (FX.fd F)) (gz_tr (gz_eoN _) (gz_tr gz_mkr gz_wr)) (dn_tr dn0 (dn_tr (dn_eoN (Z := (ux X 8 0, false)) _) (dn_tr dn_mkr dn_wr))) ?_ eo
    · rw [F.1 1 (by omega) (by omega) (by omega) (by omega) (by omega), f2 1 (by omega) (by omega)]; exact h1
    · rw [wr_far f7, mkr_far f7, eoN_far f7]; exact u7
  · rw [nwI_some hf]
    refine sc_eraseAllBut Z2 hZB (u := fdN (ux X 8 0) ((ux X 8 0) 0) - 1) (fun j hj => nI_eq (by omega) (by omega)) (fun σ3 μ3 Z3 F3 => ⟨fun _ => ?_, fun z => absurd (by rw [z]; decide) (nI_pos (n := fdN (ux X 8 0) ((ux X 8 0) 0) - 1) (by omega))⟩)
    dsimp only at Z3
    have B3 : XB (N + 6) (eoN (fdN (ux X 8 0) ((ux X 8 0) 0) - 1) ((ux X 8 0) 0) (ux X 8 0, false)).1 := (eoN_XB (u := fdN (ux X 8 0) ((ux X 8 0) 0) - 1) (Z := (ux X 8 0, false)) hZB ((ux X 8 0) 0) (by omega)).mono (by omega)
    have l0 : (eoN (fdN (ux X 8 0) ((ux X 8 0) 0) - 1) ((ux X 8 0) 0) (ux X 8 0, false)).1 0 = X 0 := by rw [eoN_far fq0]; exact u0
    have eo : onZ X = onX (fdN (ux X 8 0) ((ux X 8 0) 0) - 1) (eoN (fdN (ux X 8 0) ((ux X 8 0) 0) - 1) ((ux X 8 0) 0) (ux X 8 0, false)) := by
      unfold onZ swZ
      dsimp only
      rw [if_neg hf]
    refine c66 _ _ σ3 μ3 Z3 B3 (by rw [l0]; omega) ?_ (x2.tr (FX.fd F3)) (gz_eoN _) (dn_tr dn0 (dn_eoN (Z := (ux X 8 0, false)) _)) ?_ eo
    · rw [F3.1 1 (by omega) (by omega) (by omega) (by omega) (by omega), f2 1 (by omega) (by omega)]; exact h1
    · rw [eoN_far f7]; exact u7
theorem sc_fill2 {Q : Rg → Ar → Prop} (hQ : ∀ μ', (∀ t, t < 768 → μ' 0 t = 255) → (∀ k, k ≠ 0 → μ' k = μ k) → Q σ μ') : wp_J7_fill_53178_2 σ μ 255 Q := by
  have key : ∀ d j, j + d = 768 → ∀ μ1, (∀ t, t < j → μ1 0 t = 255) → (∀ k, k ≠ 0 → μ1 k = μ k) → wl_J7_fill_53178_2_5 Q (d + 1) σ μ1 255 (nI j) 768 := by
    intro d
    induction d with
    | zero =>
      intro j hj μ1 r1 f1
      have e : j = 768 := by omega
      subst e
      exact pk_le 768 768 (fun _ => hQ μ1 r1 f1) (fun z => absurd z (by omega)) rfl rfl
    | succ d ih =>
      intro j hj μ1 r1 f1
      refine pk_le 768 j (fun z => absurd z (by omega)) (fun _ => ⟨pk_in j 768 (by omega) rfl, fun μ2 e2 y ey => ?_⟩) rfl rfl
      rw [nI_clamp (by omega)] at e2
      rw [ey, i_p1]
      refine ih (j + 1) (by omega) μ2 (fun t ht => ?_) (fun k hk => by rw [e2, ua_n hk]; exact f1 k hk)
      rw [e2, ua_s]
      by_cases g : t = j
      · rw [g, up_s]
      · rw [up_n g]; exact r1 t (by omega)
  exact ⟨769, key 768 0 (by omega) μ (fun t ht => absurd ht (by omega)) (fun _ _ => rfl)⟩
theorem sc_fill3 {Q : Rg → Ar → Prop} (hQ : ∀ μ', (∀ t, t < 6 → μ' 1 t = 0) → (∀ k, k ≠ 1 → μ' k = μ k) → Q σ μ') : wp_J7_fill_53178_3 σ μ 0 Q := by
  have key : ∀ d j, j + d = 6 → ∀ μ1, (∀ t, t < j → μ1 1 t = 0) → (∀ k, k ≠ 1 → μ1 k = μ k) → wl_J7_fill_53178_3_5 Q (d + 1) σ μ1 0 (nI j) 6 := by
    intro d
    induction d with
    | zero =>
      intro j hj μ1 r1 f1
      have e : j = 6 := by omega
      subst e
      exact pk_le 6 6 (fun _ => hQ μ1 r1 f1) (fun z => absurd z (by omega)) rfl rfl
    | succ d ih =>
      intro j hj μ1 r1 f1
      refine pk_le 6 j (fun z => absurd z (by omega)) (fun _ => ⟨pk_in j 6 (by omega) rfl, fun μ2 e2 y ey => ?_⟩) rfl rfl
      rw [nI_clamp (by omega)] at e2
      rw [ey, i_p1]
      refine ih (j + 1) (by omega) μ2 (fun t ht => ?_) (fun k hk => by rw [e2, ua_n hk]; exact f1 k hk)
      rw [e2, ua_s]
      by_cases g : t = j
      · rw [g, up_s]
      · rw [up_n g]; exact r1 t (by omega)
  exact ⟨7, key 6 0 (by omega) μ (fun t ht => absurd ht (by omega)) (fun _ _ => rfl)⟩
theorem sc_renew1 {s b : Nat} (hs : s ≤ 6) (hb : b ≤ 128) {Q : Rg → Ar → Prop} (hQ : ∀ σ' μ', RCs σ' (nwX s b) → RCb μ' (nwX s b) → σ' 7 = 0 → (∀ q, q < 3 ∨ 10 < q → σ' q = σ q) → Q σ' μ') {x y : Int32} (hx : x = nI s) (hy : y = nI b) : wp_X1_renew σ μ x y Q := by
  intro σ1 e1 σ2 e2
  refine sc_fill2 (fun μ3 r3 f3 => sc_fill3 (fun μ4 r4 f4 σ5 e5 σ6 e6 σ7 e7 σ8 e8 σ9 e9 σ10 e10 => ?_))
  have l : ∀ q, q < 42 → q ≠ 0 → q ≠ 1 → nwX s b q = 0 := fun q h h0 h1 => nwX_lo h h0 h1
  refine hQ σ10 μ4 ⟨?_, ?_, ?_, ?_, ?_, ?_⟩ ⟨fun s' p' h1 h2 => ?_, fun s' h1 => ?_⟩ ?_ (fun q hq => ?_)
  · rw [e10, up_n (by omega), e9, up_n (by omega), e8, up_n (by omega), e7, up_n (by omega), e6, up_n (by omega), e5, up_n (by omega), e2, up_n (by omega), e1, up_s, nwX_0]; exact hx
  · rw [e10, up_n (by omega), e9, up_n (by omega), e8, up_n (by omega), e7, up_n (by omega), e6, up_n (by omega), e5, up_n (by omega), e2, up_s, nwX_1]; exact hy
  · rw [e10, up_n (by omega), e9, up_n (by omega), e8, up_n (by omega), e7, up_n (by omega), e6, up_n (by omega), e5, up_s, l 9 (by omega) (by omega) (by omega)]; rfl
  · rw [e10, up_n (by omega), e9, up_n (by omega), e8, up_s, l 4 (by omega) (by omega) (by omega)]; rfl
  · rw [e10, up_n (by omega), e9, up_s, l 5 (by omega) (by omega) (by omega)]; rfl
  · rw [e10, up_s, l 6 (by omega) (by omega) (by omega)]; rfl
  · rw [nwX_0] at h1
    rw [nwX_1] at h2 ⊢
    rw [f4 0 (by omega), r3 _ (ad_lt h1 h2 hs hb)]
    show _ = nI (nwX s b _)
    rw [nwX_hi (by omega)]; rfl
  · rw [nwX_0] at h1
    rw [r4 s' (by omega), l (36 + s') (by omega) (by omega) (by omega)]; rfl
  · rw [e10, up_n (by omega), e9, up_n (by omega), e8, up_n (by omega), e7, up_s]
  · rw [e10, up_n (by omega), e9, up_n (by omega), e8, up_n (by omega), e7, up_n (by omega), e6, up_n (by omega), e5, up_n (by omega), e2, up_n (by omega), e1, up_n (by omega)]
theorem nw_RCn {s b : Nat} {σ' : Rg} (hS : RCs σ' (nwX s b)) (hb : RCb μ (nwX s b)) (h1 : σ' 1 = 0) (h0 : σ' 0 = -1) (h7 : σ' 7 = 0) (h15 : σ' 15 = 0) : RCn σ' μ (nwX s b) := by
  have l : ∀ q, q < 42 → q ≠ 0 → q ≠ 1 → nwX s b q = 0 := fun q h h0 h1 => nwX_lo h h0 h1
  refine ⟨⟨hS, hb⟩, by rw [l 7 (by omega) (by omega) (by omega)]; exact h1, fun c => ?_, fun _ => ⟨h0, h7⟩, fun c => ?_, fun _ => h15⟩
  · rw [l 2 (by omega) (by omega) (by omega)] at c; exact absurd c (by decide)
  · rw [l 10 (by omega) (by omega) (by omega)] at c; exact absurd c (by decide)
end CK
