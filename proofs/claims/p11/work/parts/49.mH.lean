/-! the reference: the handover -/
def eB (X : Nat → Nat) (s t i : Nat) : List Nat := if kd X s (ps X s i) = 1 then cB t (vlN X s i) else sB 16 t (ln X s i) (vlN X s i)
noncomputable def hoN (X : Nat → Nat) (s n : Nat) : Nat → Zt → Zt
  | 0, Z => Z
  | t + 1, Z => itp (hv X s t) (lay n (szN X s t) (eB X s t (nwt X s t - 1)) (hoN X s n t Z)) (hoN X s n t Z)
def hon (Z : Zt) : Nat := leN Z.1 (Z.1 3) (Z.1 0) - 1
noncomputable def ho1 (Z : Zt) : Zt := itp (blnk Z.1 (hon Z) 0) Z (er (hon Z) Z)
noncomputable def ho2 (Z : Zt) : Zt := mkr (hon Z) ((nb Z.1 (Z.1 3) + 1) % 65536) (ho1 Z)
noncomputable def ho3 (Z : Zt) : Zt := hoN Z.1 (Z.1 3) (hon Z) 48 (ho2 Z)
noncomputable def ho4 (Z : Zt) : Zt := er (Z.1 3) (wr (hon Z) 0 63 (ho3 Z))
noncomputable def hoZ (Z : Zt) : Zt := if (ho4 Z).2 = true then ho4 Z else (ux (ux (ho4 Z).1 3 (hon Z)) 7 ((ho4 Z).1 7 + 1), false)
def smN (f : Nat → Nat) : Nat → Nat
  | 0 => 0
  | n + 1 => smN f n + f n
section MH
variable {σ : Rg} {μ : Ar} {X : Nat → Nat} {N : Nat}
theorem smN_le {f g : Nat → Nat} (h : ∀ i, f i ≤ g i) (n : Nat) : smN f n ≤ smN g n := by
  induction n with
  | zero => exact Nat.le_refl _
  | succ n ih => have := h n; show smN f n + f n ≤ smN g n + g n; omega
theorem smN_up {f : Nat → Nat} {i0 v : Nat} (h0 : f i0 = 0) : ∀ n, smN (ux f i0 v) n = smN f n + (if i0 < n then v else 0)
  | 0 => rfl
  | n + 1 => by
    show smN (ux f i0 v) n + ux f i0 v n = smN f n + f n + _
    rw [smN_up h0 n]
    by_cases e : n = i0
    · subst e; rw [ux_s, if_neg (by omega), if_pos (by omega)]; omega
    · rw [ux_n e]
      by_cases h : i0 < n
      · rw [if_pos h, if_pos (by omega)]; omega
      · rw [if_neg h, if_neg (by omega)]; omega
theorem ps_sum (X : Nat → Nat) (s e : Nat) : ps X s e = 4 + smN (fun i => sz X s (ps X s i)) e := by
  induction e with
  | zero => rfl
  | succ e ih => show ps X s e + sz X s (ps X s e) = 4 + (smN _ e + sz X s (ps X s e)); omega
theorem ps_le (hB : XB N X) (s : Nat) : ps X s (nE X s) ≤ X 1 := by
  have hE := nE_spec (s := s) hB.2.2.2.1
  generalize nE X s = e at *
  cases e with
  | zero => show 4 ≤ X 1; have := hB.2.2.1; omega
  | succ e => exact (hE.1 e (by omega)).2.2
theorem frE_le (hB : XB N X) (s : Nat) : frE X s ≤ X 1 := by
  have := ps_le hB s
  unfold frE itp; split <;> omega
theorem frE_ge (X : Nat → Nat) (s : Nat) (hB : XB N X) : 4 ≤ frE X s := by
  have := ps_ge X s (nE X s)
  have := hB.2.2.1
  unfold frE itp; split <;> omega
/-- the size of a newest entry with a value -/
theorem hv_sz (hB : XB N X) {s t : Nat} (g : hv X s t) : sz X s (ps X s (nwt X s t - 1)) = if kd X s (ps X s (nwt X s t - 1)) = 1 then 14 else 3 + ln X s (nwt X s t - 1) := by
  have hi := nwt_i hB g.1
  obtain ⟨q1, q2, q3, q4, q5, q6⟩ := ent hB hi.1
  split
  · rename_i e; exact q3 e
  · have := hi.2.1; exact (q5 (by omega)).1
theorem szN_f (hB : XB N X) (s : Nat) : ∀ T, ∃ f : Nat → Nat, (∀ i, f i ≤ sz X s (ps X s i)) ∧ (∀ i, T ≤ bt X s (ps X s i) → f i = 0) ∧ szN X s T = 4 + smN f (nE X s)
  | 0 => ⟨fun _ => 0, fun _ => Nat.zero_le _, fun _ _ => rfl, by
      have : ∀ n, smN (fun _ => 0) n = 0 := by
        intro n; induction n with
        | zero => rfl
        | succ n ih => show smN _ n + 0 = 0; omega
      rw [this]; rfl⟩
  | T + 1 => by
    obtain ⟨f, h1, h2, h3⟩ := szN_f hB s T
    by_cases g : hv X s T
    · have hi := nwt_i hB g.1
      refine ⟨ux f (nwt X s T - 1) (sz X s (ps X s (nwt X s T - 1))), fun i => ?_, fun i hT => ?_, ?_⟩
      · by_cases e : i = nwt X s T - 1
        · rw [e, ux_s]; exact Nat.le_refl _
        · rw [ux_n e]; exact h1 i
      · by_cases e : i = nwt X s T - 1
        · rw [e, hi.2.2.2] at hT; omega
        · rw [ux_n e]; exact h2 i (by omega)
      · rw [smN_up (h2 _ (by rw [hi.2.2.2]; exact Nat.le_refl _)), if_pos hi.1, hv_sz hB g]
        show itp _ _ _ = _
        rw [itp_pos g, h3]; omega
    · exact ⟨f, h1, fun i hT => h2 i (by omega), by show itp _ _ _ = _; rw [itp_neg g, h3]⟩
theorem szN_le (hB : XB N X) (s T : Nat) : szN X s T ≤ X 1 := by
  obtain ⟨f, h1, _, h3⟩ := szN_f hB s T
  have := smN_le h1 (nE X s)
  have h5 := ps_sum X s (nE X s)
  have h6 := ps_le hB s
  omega
theorem szN_ge (X : Nat → Nat) (s T : Nat) : 4 ≤ szN X s T := by
  induction T with
  | zero => exact Nat.le_refl _
  | succ T ih => show 4 ≤ itp _ _ _; unfold itp; split <;> omega
theorem wr_o {n p v s q : Nat} {Z : Zt} (h : s ≠ n) (hp : p < 128) (hq : q < 128) : bt (wr n p v Z).1 s q = bt Z.1 s q := by
  unfold wr
  split
  · rfl
  · dsimp only
    rw [bt_ux (by omega), bt_go]
theorem er_o {n s q : Nat} {Z : Zt} (hB : XB N Z.1) (h : s ≠ n) (hn : n < 6) (hq : q < 128) : bt (er n Z).1 s q = bt Z.1 s q := by
  unfold er
  split
  · rfl
  · have : erm Z.1 ≤ 128 := by have := hB.2.2.2.1; unfold erm; split <;> omega
    unfold bt
    dsimp only
    rw [if_neg (by omega), goX_far (by omega) (by omega) (by omega) (by omega) (by omega), ux_n (by omega)]
theorem mkr_o {n m s q : Nat} {Z : Zt} (h : s ≠ n) (hq : q < 128) : bt (mkr n m Z).1 s q = bt Z.1 s q := by
  unfold mkr
  rw [wr_o h (by omega) hq, wr_o h (by omega) hq, wr_o h (by omega) hq, wr_o h (by omega) hq]
theorem lay_o {n s q : Nat} (h : s ≠ n) (hq : q < 128) : ∀ (l : List Nat) (p : Nat) {Z : Zt}, p + l.length ≤ 128 → bt (lay n p l Z).1 s q = bt Z.1 s q
  | [], _, _, _ => rfl
  | v :: l, p, Z, hp => by
    have hl : (v :: l).length = l.length + 1 := rfl
    exact (lay_o h hq l (p + 1) (by omega)).trans (wr_o h (by omega) hq)
theorem sB_len (a t n W : Nat) : (sB a t n W).length = 3 + n := by
  unfold sB ckd
  rw [List.length_append]
  show (byl W n).length + 1 + 1 + 1 = _
  rw [byl_len]; omega
theorem cB_len (t w : Nat) : (cB t w).length = 6 := rfl
theorem eB_len (X : Nat → Nat) (s t i : Nat) : (eB X s t i).length ≤ if kd X s (ps X s i) = 1 then 14 else 3 + ln X s i := by
  unfold eB
  split
  · rw [cB_len]; omega
  · rw [sB_len]; omega
theorem szN_hv {s t : Nat} (g : hv X s t) : szN X s (t + 1) = szN X s t + (if kd X s (ps X s (nwt X s t - 1)) = 1 then 14 else 3 + ln X s (nwt X s t - 1)) := itp_pos g
theorem szN_no {s t : Nat} (g : ¬ hv X s t) : szN X s (t + 1) = szN X s t := itp_neg g
theorem hoN_hv {s n t : Nat} {Z : Zt} (g : hv X s t) : hoN X s n (t + 1) Z = lay n (szN X s t) (eB X s t (nwt X s t - 1)) (hoN X s n t Z) := itp_pos g
theorem hoN_no {s n t : Nat} {Z : Zt} (g : ¬ hv X s t) : hoN X s n (t + 1) Z = hoN X s n t Z := itp_neg g
theorem hoN_XB {s n : Nat} {Z : Zt} (hB : XB N Z.1) : ∀ t, XB N (hoN X s n t Z).1
  | 0 => hB
  | t + 1 => by
    by_cases g : hv X s t
    · rw [hoN_hv g]; exact lay_XB _ _ (hoN_XB hB t)
    · rw [hoN_no g]; exact hoN_XB hB t
theorem hoN_far {s n q : Nat} {Z : Zt} (h : fq q) : ∀ t, (hoN X s n t Z).1 q = Z.1 q
  | 0 => rfl
  | t + 1 => by
    by_cases g : hv X s t
    · rw [hoN_hv g]; exact (lay_far h _ _).trans (hoN_far h t)
    · rw [hoN_no g]; exact hoN_far h t
theorem hoN_o (hB : XB N X) {s n q : Nat} {Z : Zt} (h : s ≠ n) (hq : q < 128) : ∀ t, bt (hoN X s n t Z).1 s q = bt Z.1 s q
  | 0 => rfl
  | t + 1 => by
    by_cases g : hv X s t
    · rw [hoN_hv g]
      have h1 := szN_le hB s (t + 1)
      have h2 := szN_hv g
      have h3 := eB_len X s t (nwt X s t - 1)
      have h4 := hB.2.2.2.1
      exact (lay_o h hq _ _ (by omega)).trans (hoN_o hB h hq t)
    · rw [hoN_no g]; exact hoN_o hB h hq t
theorem vlN_lt (hB : XB N X) {s i : Nat} (hs : s < 6) (hi : i < nE X s) (h3 : kd X s (ps X s i) ≠ 3) : vlN X s i < 2 ^ 32 ∧ (kd X s (ps X s i) = 1 → vlN X s i < 2 ^ 31) := by
  obtain ⟨q1, q2, q3, q4, q5, q6⟩ := ent hB hi
  have b1 := hB.2.2.2.1
  unfold vlN
  by_cases e : kd X s (ps X s i) = 1
  · have := q3 e
    have h1 := nm_lt hB (n := 3) hs (show ps X s i + 2 + 3 ≤ 128 by omega) (by omega)
    have h2 := zr_le X s (ps X s i + 6) 8
    rw [if_pos e]; constructor <;> omega
  · have := q5 (by omega)
    have h1 := nm_lt hB (n := ln X s i) hs (show ps X s i + 2 + ln X s i ≤ 128 by omega) (by omega)
    rw [if_neg e]
    refine ⟨Nat.lt_of_lt_of_le h1 ?_, fun z => absurd z e⟩
    exact Nat.pow_le_pow_right (n := 256) (by omega) (show ln X s i ≤ 4 by omega)
theorem l2i (w : Nat) (h : w < 2 ^ 31) : (lN w).toInt32 = nI w := by rw [← nI_l h, lg_l2i_i2l]
theorem lNt (w : Nat) (h : w < 2 ^ 64) : (lN w).toBitVec.toNat = w := by
  show (BitVec.ofNat 64 w).toNat = w
  rw [BitVec.toNat_ofNat]; exact Nat.mod_eq_of_lt h
theorem RD.fr {s : Nat} {σ' : Rg} {μ' : Ar} (h : RD X s σ μ) (F : FL σ σ') (A : FA μ μ') : RD X s σ' μ' := by
  obtain ⟨⟨h1, h2⟩, h3, h4, h5, h6⟩ := h
  refine ⟨⟨by rw [F 2 (by omega) (by omega) (by omega)]; exact h1, fun i hi => ?_⟩, by rw [F 3 (by omega) (by omega) (by omega)]; exact h3, by rw [F 4 (by omega) (by omega) (by omega)]; exact h4, fun t ht => ?_, fun i hi => ?_⟩
  · rw [A 2 (by omega), A 3 (by omega), A 4 (by omega)]; exact h2 i hi
  · rw [A 6 (by omega)]; exact h5 t ht
  · rw [A 5 (by omega)]; exact h6 i hi
theorem ho_l (hB : XB N X) {s n : Nat} (hs : s < 6) (hn : n < 6) (hsn : s ≠ n) {Z : Zt} (hZ : XB N Z.1) (hb : ∀ p, p < 128 → bt Z.1 s p = bt X s p) (h1 : Z.1 1 = X 1) {Q : Rg → Ar → Prop} (hQ : ∀ σ' μ', RW σ' μ' (hoN X s n 48 Z) → FL σ σ' → FA μ μ' → wl_X6_handsOver_59 Q 1 σ' μ' (nI s) (nI n) (nI 48)) : ∀ d t c, t + d = 48 → ∀ σ1 μ1, RLa σ1 μ1 (hoN X s n t Z) n (szN X s t) c → RD X s σ1 μ1 → FL σ σ1 → FA μ μ1 → wl_X6_handsOver_59 Q (d + 1) σ1 μ1 (nI s) (nI n) (nI t) := by
  have b1 := hB.2.2.2.1
  intro d
  induction d with
  | zero =>
    intro t c ht σ1 μ1 L D F A
    have e : t = 48 := by omega
    subst e
    exact hQ σ1 μ1 L.1 F A
  | succ d ih =>
    intro t c ht σ1 μ1 L D F A
    refine pk_le 48 t (fun z => absurd z (by omega)) (fun _ => ?_) rfl rfl
    have hT : RT μ1 X s := ⟨by rw [L.1.1 1 (by omega), hoN_far (by unfold fq; omega), h1], fun p hp => by
      rw [L.1.1 _ (by omega)]
      show nI (bt (hoN X s n t Z).1 s p) = _
      rw [hoN_o hB hsn hp t, hb p hp]⟩
    have hin : vp_in (nI t) 48 := pk_in t 48 (by omega) rfl
    refine sm_hasValue hT hB hs (by omega) D (fun g => ⟨fun _ => ⟨hin, fun y ey => ?_⟩, fun z => absurd z (by decide)⟩) (fun g => ⟨fun z => absurd rfl z, fun _ y ey => ?_⟩)
    · have hi := nwt_i hB g.1
      have hie := nE_le (s := s) b1
      obtain ⟨p2, p3, p4⟩ := D.1.2 _ hi.1
      have h2 := szN_le hB s (t + 1)
      have h3 := szN_hv g
      have hkl := kd_le X s (ps X s (nwt X s t - 1))
      have hw := vlN_lt hB hs hi.1 hi.2.1
      have hBt := hoN_XB (X := X) (s := s) (n := n) hZ t
      have ev : vlL X s (nwt X s t - 1) = lN (vlN X s (nwt X s t - 1)) := if_neg (by have := g.2; omega)
      rw [nI_clamp (by omega), D.2.2.2.1 t (by omega), nwI_some g.1] at ey
      rw [ey]
      refine ⟨pk_in _ 64 (by omega) rfl, ?_⟩
      rw [nI_clamp (by omega), p3]
      refine ⟨fun z => ?_, fun z => ?_⟩
      · have e : kd X s (ps X s (nwt X s t - 1)) ≠ 1 := fun g => z (by rw [g]; rfl)
        rw [if_neg e] at h3
        obtain ⟨q1, q2, q3, q4, q5, q6⟩ := ent hB hi.1
        have hl4 := (q5 (by have := hi.2.1; omega)).2
        refine sm_lengthOf hT hB hs D.1 hi.1 (sm_valueOf hT hB hs D.1 hi.1 hi.2.1 ?_)
        rw [ev]
        refine sm_laysSetting (a := 16) L hBt hn (by omega) hl4 (by omega) (fun σ2 μ2 c2 L2 F2 A2 y2 ey2 => ?_)
        rw [ey2, i_p1]
        refine ih (t + 1) c2 (by omega) σ2 μ2 ?_ (D.fr F2 A2) (F.tr F2) (A.tr A2)
        rw [lNt _ (by omega)] at L2
        rw [hoN_hv g, h3]
        unfold eB
        rw [if_neg e]; exact L2
      · have e := (nI_eq (b := 1) (by omega) (by omega)).mp z
        rw [if_pos e] at h3
        refine sm_valueOf hT hB hs D.1 hi.1 hi.2.1 ?_
        rw [ev, l2i _ (hw.2 e)]
        refine sm_laysCounter L hBt hn (by omega) (hw.2 e) (by omega) (fun σ2 μ2 c2 L2 F2 A2 y2 ey2 => ?_)
        rw [ey2, i_p1]
        refine ih (t + 1) c2 (by omega) σ2 μ2 ?_ (D.fr F2 A2) (F.tr F2) (A.tr A2)
        rw [hoN_hv g, h3]
        unfold eB
        rw [if_pos e]; exact L2
    · rw [ey, i_p1]
      refine ih (t + 1) c (by omega) σ1 μ1 ?_ D F A
      rw [hoN_no g, szN_no g]; exact L
theorem hon_s (hB : XB N X) {b : Bool} : hon (X, b) < X 0 ∧ hon (X, b) ≠ X 3 := by
  have h1 := leN_le X (X 3) (X 0)
  have h2 := leN_pos X (X 3) (X 0) hB.1
  have h3 := leN_ne X (X 3) (X 0)
  unfold hon
  dsimp only
  constructor <;> omega
theorem ho1_XB {Z : Zt} (hB : XB N Z.1) : XB (N + 1) (ho1 Z).1 := by
  have h := hon_s (b := Z.2) hB
  have := hB.2.1
  unfold ho1 itp
  split
  · exact hB.mono (by omega)
  · exact er_XB hB (by have : hon Z = hon (Z.1, Z.2) := rfl; omega)
theorem sm_handsOver {Z : Zt} (hW : RW σ μ Z) (hB : XB N Z.1) (hN : N < 2 ^ 29) (h3 : Z.1 3 < Z.1 0) {Q : Rg → Ar → Prop} (hQ : ∀ σ' μ', RW σ' μ' (hoZ Z) → FK σ μ σ' μ' → Q σ' μ') : wp_X6_handsOver σ μ Q := by
  have b6 := hB.2.1
  have b1 := hB.2.2.2.1
  have hh : hon Z < Z.1 0 ∧ hon Z ≠ Z.1 3 := hon_s (b := Z.2) hB
  have hsn : Z.1 3 ≠ hon Z := fun g => hh.2 g.symm
  intro y ey
  rw [hW.1 3 (by omega)] at ey
  rw [ey]
  refine sm_leastErased (u := Z.1 3) hW.1 hB (by omega) (fun j hj => nI_eq (by omega) (by omega)) ?_
  have k27 : ∀ σ1 μ1, RW σ1 μ1 (ho1 Z) → FS σ σ1 → FA μ μ1 → wb_X6_handsOver_27 Q σ1 μ1 (nI (Z.1 3)) (nI (hon Z)) := by
    intro σ1 μ1 W1 S1 A1
    have hB1 := ho1_XB hB
    have o1 : ∀ p, p < 128 → bt (ho1 Z).1 (Z.1 3) p = bt Z.1 (Z.1 3) p := by
      intro p hp
      unfold ho1 itp
      split
      · rfl
      · exact er_o hB hsn (by omega) hp
    have f1 : ∀ q, fq q → (ho1 Z).1 q = Z.1 q := by
      intro q hq
      unfold ho1 itp
      split
      · rfl
      · exact er_far hq
    have enb : nb (ho1 Z).1 (Z.1 3) = nb Z.1 (Z.1 3) := by unfold nb; rw [o1 1 (by omega), o1 2 (by omega)]
    have hnb := nb_le hB (s := Z.1 3) (by omega)
    refine sm_numberOf W1.1 (by omega) ?_
    rw [enb, i_p1, i_rem (nb Z.1 (Z.1 3) + 1) 65536 (by omega) (by omega) (by omega) rfl (y := 65536) rfl]
    refine sm_makesReady W1 hB1 (by omega) (Nat.mod_lt _ (by omega)) (fun σ2 μ2 W2 S2 A2 => ?_)
    have hB2 : XB (N + 1) (ho2 Z).1 := mkr_XB hB1
    have o2 : ∀ p, p < 128 → bt (ho2 Z).1 (Z.1 3) p = bt Z.1 (Z.1 3) p := fun p hp => (mkr_o hsn hp).trans (o1 p hp)
    have f2 : ∀ q, fq q → (ho2 Z).1 q = Z.1 q := fun q hq => by
      unfold ho2 mkr
      rw [wr_far hq, wr_far hq, wr_far hq, wr_far hq]; exact f1 q hq
    have T2 : RT μ2 Z.1 (Z.1 3) := ⟨by rw [W2.1 1 (by omega)]; exact congrArg nI (f2 1 (by unfold fq; omega)), fun p hp => by
      rw [W2.1 _ (by omega)]
      exact congrArg nI (o2 p hp)⟩
    refine sr_reads T2 hB (by omega) (fun σ3 μ3 F3 G3' D3 σ4 e4 σ5 e5 => ?_)
    have g5 : ∀ k, k ≠ 5 → k ≠ 6 → σ5 k = σ3 k := fun k k5 k6 => by rw [e5, up_n k6, e4, up_n k5]
    have D5 : RD Z.1 (Z.1 3) σ5 μ3 := by
      obtain ⟨⟨d1, d2⟩, d3, d4, d5, d6⟩ := D3
      exact ⟨⟨by rw [g5 2 (by omega) (by omega)]; exact d1, d2⟩, by rw [g5 3 (by omega) (by omega)]; exact d3, by rw [g5 4 (by omega) (by omega)]; exact d4, d5, d6⟩
    have W5 : RW σ5 μ3 (ho2 Z) := ⟨F3.RM W2.1, by rw [g5 1 (by omega) (by omega), G3' 1 (by omega) (by omega) (by omega)]; exact W2.2⟩
    have K5 : FK σ μ σ5 μ3 := (FK.fs S1 A1).tr ((FK.fs S2 A2).tr ⟨by rw [g5 0 (by omega) (by omega), G3' 0 (by omega) (by omega) (by omega)], F3.2⟩)
    refine ⟨48 + 1, ho_l (σ := σ5) (μ := μ3) (X := Z.1) (hB.mono (M := N + 1) (by omega)) (by omega) (by omega) hsn hB2 o2 (f2 1 (by unfold fq; omega)) (fun σ6 μ6 W6 F6 A6 => ?_) 48 0 (σ5 7).toBitVec.toNat (by omega) σ5 μ3 ⟨W5, ?_, ?_, ?_⟩ D5 FL.rf FA.rf⟩
    · refine ⟨fun _ => ?_, fun z => absurd (by decide) z⟩
      have hB3 : XB (N + 1) (ho3 Z).1 := hoN_XB hB2 48
      refine sm_writes (p := 0) (v := 63) W6 hB3 (by omega) (by omega) (fun σ7 μ7 W7 S7 A7 => ?_)
      refine sm_erases W7 (wr_XB hB3) (by omega) (fun σ8 μ8 W8 S8 A8 => ?_)
      have W8' : RW σ8 μ8 (ho4 Z) := W8
      have K8 : FK σ μ σ8 μ8 := K5.tr (FK.tr ⟨F6 0 (by omega) (by omega) (by omega), A6 1 (by omega)⟩ ((FK.fs S7 A7).tr (FK.fs S8 A8)))
      obtain ⟨hR8, hg8⟩ := W8'
      cases hz : (ho4 Z).2 with
      | false =>
        rw [hz] at hg8
        refine ⟨fun _ μ9 e9 μ10 e10 => ?_, fun z => absurd hg8 z⟩
        have ex : hoZ Z = (ux (ux (ho4 Z).1 3 (hon Z)) 7 ((ho4 Z).1 7 + 1), false) := by unfold hoZ; rw [hz]; rfl
        have R9 : RM μ9 (ux (ho4 Z).1 3 (hon Z)) := by rw [e9]; exact hR8.set rfl
        refine hQ σ8 μ10 ⟨?_, ?_⟩ (K8.tr ⟨rfl, ?_⟩)
        · rw [ex, e10]
          refine R9.set ?_
          rw [R9 7 (by omega), ux_n (by omega)]; exact i_p1 _
        · rw [ex]; exact hg8
        · rw [e10, ua_n (by omega), e9, ua_n (by omega)]
      | true =>
        rw [hz] at hg8
        refine ⟨fun z => absurd (hg8.symm.trans z) (by decide), fun _ => ?_⟩
        have ex : hoZ Z = ho4 Z := by unfold hoZ; rw [if_pos hz]
        exact hQ σ8 μ8 ⟨by rw [ex]; exact hR8, by rw [ex, hz]; exact hg8⟩ K8
    · rw [e5, up_n (by omega), e4, up_s]
    · rw [e5, up_s]; rfl
    · show σ5 7 = Int32.ofNat _
      apply Int32.toBitVec_inj.mp
      show _ = BitVec.ofNat 32 _
      simp
  refine sm_isBlank (s := hon Z) (p := 0) hW.1 hB (by omega) (by omega) (fun g => ⟨fun _ => k27 σ μ (by unfold ho1; rw [itp_pos g]; exact hW) FS.rf FA.rf, fun z => absurd z (by decide)⟩) (fun g => ⟨fun z => absurd rfl z, fun _ => ?_⟩)
  exact sm_erases (s := hon Z) hW hB (by omega) (fun σ1 μ1 W1 S1 A1 => k27 σ1 μ1 (by unfold ho1; rw [itp_neg g]; exact W1) S1 A1)
end MH
