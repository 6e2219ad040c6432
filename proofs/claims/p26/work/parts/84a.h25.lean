/-! wears: all sectors but the one in use are blank -/
def BZ (Z : Zt) : Prop := ∀ s, s < Z.1 0 → s ≠ Z.1 3 → blnk Z.1 s 0
def BL (X : Nat → Nat) : Prop := X 2 = 1 → ∀ s, s < X 0 → s ≠ X 3 → blnk X s 0
section WS
variable {X : Nat → Nat} {N : Nat}
theorem bl_o {A B : Nat → Nat} {s : Nat} (b1 : A 1 ≤ 128) (h1 : B 1 = A 1) (h : ∀ q, q < 128 → bt B s q = bt A s q) (hb : blnk A s 0) : blnk B s 0 := fun q _ h2 => by
  rw [h1] at h2
  rw [h q (by omega)]; exact hb q (Nat.zero_le _) h2
theorem bl_ex {Y : Nat → Nat} (h : BL X) (b1 : X 1 ≤ 128) (b6 : X 0 ≤ 6) (e0 : Y 0 = X 0) (e1 : Y 1 = X 1) (e2 : Y 2 = X 2) (e3 : Y 3 = X 3) (he : ∀ q, 42 ≤ q → Y q = X q) : BL Y := fun c s hs hne => by
  rw [e0] at hs
  rw [e3] at hne
  exact bl_o b1 e1 (fun q _ => he _ (by omega)) (h (by rw [← e2]; exact c) s hs hne)
theorem bl_off {Y : Nat → Nat} (e2 : Y 2 = 0) : BL Y := fun c => by omega
theorem bl_gz {Z : Zt} (G : GZ (ux X 8 0, false) Z) (h : Z.2 = false → X 2 = 1 → BZ Z) : BL Z.1 := fun c s hs hne => by
  cases hz : Z.2 with
  | true => have := (G.1 hz nff).1; omega
  | false =>
    obtain ⟨_, g2, _⟩ := G.2 hz
    refine h hz ?_ s hs hne
    have e2 : (ux X 8 0, false).1 2 = X 2 := show ux X 8 0 2 = X 2 from ux_n (by omega)
    rw [← e2, ← g2]; exact c
theorem bz_0 (h : BL X) (h2 : X 2 = 1) (b1 : X 1 ≤ 128) (b6 : X 0 ≤ 6) : BZ (ux X 8 0, false) := fun s hs hne => by
  have e0 : ux X 8 0 0 = X 0 := ux_n (by omega)
  have e3 : ux X 8 0 3 = X 3 := ux_n (by omega)
  dsimp only at hs hne ⊢
  rw [e0] at hs
  rw [e3] at hne
  exact bl_o b1 (ux_n (by omega)) (fun q _ => bt_ux (by omega)) (h h2 s hs hne)
theorem bz_lay {l : List Nat} {p : Nat} {Z : Zt} (h : BZ Z) (b1 : Z.1 1 ≤ 128) (hl : p + l.length ≤ 128) : BZ (lay (Z.1 3) p l Z) := fun s hs hne => by
  rw [lay_far fq0] at hs
  rw [lay_far fq3] at hne
  exact bl_o b1 (lay_far fq1 _ _) (fun q hq => lay_o hne hq l p hl) (h s hs hne)
theorem bz_wr {p v : Nat} {Z : Zt} (h : BZ Z) (b1 : Z.1 1 ≤ 128) (hp : p < 128) : BZ (wr (Z.1 3) p v Z) := fun s hs hne => by
  rw [wr_far fq0] at hs
  rw [wr_far fq3] at hne
  exact bl_o b1 (wr_far fq1) (fun q hq => wr_o hne hp hq) (h s hs hne)
theorem hoN_o2 (hB : XB N X) {s s' n q : Nat} {Z : Zt} (h : s' ≠ n) (hq : q < 128) : ∀ t, bt (hoN X s n t Z).1 s' q = bt Z.1 s' q
  | 0 => rfl
  | t + 1 => by
    by_cases g : hv X s t
    · rw [hoN_hv g]
      have h1 := szN_le hB s (t + 1)
      have h2 := szN_hv g
      have h3 := eB_len X s t (nwt X s t - 1)
      have b1 := hB.2.2.2.1
      rw [lay_o h hq _ _ (by omega)]
      exact hoN_o2 hB h hq t
    · rw [hoN_no g]; exact hoN_o2 hB h hq t
theorem bz_hoZ {Z : Zt} (hB : XB N Z.1) (h3 : Z.1 3 < Z.1 0) (h : BZ Z) (hz : (hoZ Z).2 = false) : BZ (hoZ Z) := by
  have b1 := hB.2.2.2.1
  have b6 := hB.2.1
  have hh := hon_s hB (b := Z.2)
  have hhn : hon Z < Z.1 0 ∧ hon Z ≠ Z.1 3 := hh
  have h4 : (ho4 Z).2 = false := by
    cases g : (ho4 Z).2 with
    | true => rw [show hoZ Z = ho4 Z by unfold hoZ; rw [if_pos g]] at hz; rw [g] at hz; exact absurd hz (by decide)
    | false => rfl
  have ez : hoZ Z = (ux (ux (ho4 Z).1 3 (hon Z)) 7 ((ho4 Z).1 7 + 1), false) := by unfold hoZ; rw [if_neg (by rw [h4]; decide)]
  have u : ∀ q, q ≠ 3 → q ≠ 7 → (hoZ Z).1 q = (ho4 Z).1 q := fun q q3 q7 => by rw [ez]; dsimp only; rw [ux_n q7, ux_n q3]
  have e0 : (hoZ Z).1 0 = Z.1 0 := by rw [u 0 (by omega) (by omega), ho4_far fq0]
  have e1 : (hoZ Z).1 1 = Z.1 1 := by rw [u 1 (by omega) (by omega), ho4_far fq1]
  have e3 : (hoZ Z).1 3 = hon Z := by rw [ez]; dsimp only; rw [ux_n (by omega), ux_s]
  intro s hs hne
  rw [e0] at hs
  rw [e3] at hne
  by_cases g : s = Z.1 3
  · subst g
    intro q _ h2
    rw [e1] at h2
    have ho := er_ok (s := Z.1 3) (Z := wr (hon Z) 0 63 (ho3 Z)) h4
    have l1 : (wr (hon Z) 0 63 (ho3 Z)).1 1 = Z.1 1 := by rw [wr_far fq1]; unfold ho3; rw [hoN_far fq1, ho2_far fq1]
    have := ho.2.2 q (by rw [l1]; exact h2)
    unfold bt at this ⊢
    rw [u _ (by omega) (by omega)]; exact this
  · refine bl_o b1 e1 (fun q hq => ?_) (h s hs g)
    have B1 : XB (N + 1) (ho1 Z).1 := ho1_XB hB
    have B3 : XB (N + 1) (wr (hon Z) 0 63 (ho3 Z)).1 := wr_XB (hoN_XB (mkr_XB B1) 48)
    have t1 : bt (hoZ Z).1 s q = bt (ho4 Z).1 s q := by unfold bt; rw [u _ (by omega) (by omega)]
    have t2 : bt (ho4 Z).1 s q = bt (wr (hon Z) 0 63 (ho3 Z)).1 s q := er_o B3 g (by omega) hq
    have t3 : bt (wr (hon Z) 0 63 (ho3 Z)).1 s q = bt (ho3 Z).1 s q := wr_o hne (by omega) hq
    have t4 : bt (ho3 Z).1 s q = bt (ho2 Z).1 s q := hoN_o2 hB hne hq 48
    have t5 : bt (ho2 Z).1 s q = bt (ho1 Z).1 s q := mkr_o hne hq
    have t6 : bt (ho1 Z).1 s q = bt Z.1 s q := by
      unfold ho1 itp
      split
      · rfl
      · exact er_o hB hne (by omega) hq
    rw [t1, t2, t3, t4, t5, t6]
theorem bz_mrZ {m : Nat} {Z : Zt} (hB : XB N Z.1) (h3 : Z.1 3 < Z.1 0) (h : BZ Z) (hz : (mrZ m Z).2 = false) : BZ (mrZ m Z) := by
  unfold mrZ itp at hz ⊢
  split
  · exact h
  · rename_i g
    rw [if_neg g] at hz
    exact bz_hoZ hB h3 h hz
theorem lay_nz {s : Nat} {l : List Nat} {p : Nat} {Z : Zt} (h : (lay s p l Z).2 = false) : Z.2 = false := (gz_lay (s := s) l p (Z := Z)).2 h |>.1
theorem bz_ly {m : Nat} {l : List Nat} (hI : IX N X) (hb : BL X) (h2 : X 2 = 1) (hf : fits m (ux X 8 0, false)) (h0 : 0 < m) (hl : l.length ≤ m) (hz : (lyZ l (mrZ m (ux X 8 0, false))).2 = false) : BZ (lyZ l (mrZ m (ux X 8 0, false))) := by
  have hB := hI.1
  have b1 := hB.2.2.2.1
  have hZB : XB N (ux X 8 0) := x8_XB hB
  have h30 := x8_3 hI.2.1
  have hz2 : (mrZ m (ux X 8 0, false)).2 = false := lay_nz hz
  have hfr := mrZ_fr hZB h30 hf hz2 h0
  have e1X : (ux X 8 0, false).1 1 = X 1 := show ux X 8 0 1 = X 1 from ux_n (by omega)
  rw [e1X] at hfr
  have m1 : (mrZ m (ux X 8 0, false)).1 1 = X 1 := by rw [mrZ_far fq1 (by omega) (by omega)]; exact e1X
  unfold lyZ
  exact bz_lay (bz_mrZ hZB h30 (bz_0 hb h2 b1 hB.2.1) hz2) (by rw [m1]; exact b1) (by omega)
theorem stZ_K {t n W : Nat} (hI : IX N X) (hb : BL X) : BL (stZ X t n W).1 := by
  refine bl_gz gz_stZ (fun hz h2 => ?_)
  unfold stZ itp at hz ⊢
  split
  · rename_i hf
    rw [if_pos hf] at hz
    exact bz_ly hI hb h2 hf (by omega) (by rw [sB_len]; omega) hz
  · exact bz_0 hb h2 hI.1.2.2.2.1 hI.1.2.1
theorem ssX_K {t n : Nat} {v : Int32} (hI : IX N X) (hb : BL X) : BL (ssX X t n v) := by
  unfold ssX
  split
  · rename_i h10
    have c1 := (hI.2.2 h10).1
    have hle := icN_le X t (X 11)
    unfold tlX
    split
    · exact bl_ex hb hI.1.2.2.2.1 hI.1.2.1 (tl3_far (by omega) (by omega)) (tl3_far (by omega) (by omega)) (tl3_far (by omega) (by omega)) (tl3_far (by omega) (by omega)) (fun q hq => tl3_far (by omega) (by omega))
    · split
      · exact hb
      · exact bl_ex hb hI.1.2.2.2.1 hI.1.2.1 (by rw [tl3_far (by omega) (by omega), ux_n (by omega)]) (by rw [tl3_far (by omega) (by omega), ux_n (by omega)]) (by rw [tl3_far (by omega) (by omega), ux_n (by omega)]) (by rw [tl3_far (by omega) (by omega), ux_n (by omega)]) (fun q hq => by rw [tl3_far (by omega) (by omega), ux_n (by omega)])
  · exact stZ_K hI hb
theorem seX_K {x1 v x3 : Int32} (hI : IX N X) (hb : BL X) : BL (seX X x1 v x3) := by
  unfold seX itp
  split
  · exact ssX_K hI hb
  · exact hb
theorem dpX_K {x : Int32} (hI : IX N X) (hb : BL X) : BL (dpX X x) := by
  unfold dpX itp
  split
  · exact ssX_K hI hb
  · exact hb
theorem chX_K {x1 x2 : Int32} (hb : BL X) : BL (chX X x1 x2) := by
  unfold chX itp
  split
  · exact bl_off (nwX_lo (by omega) (by omega) (by omega))
  · exact hb
theorem ofX_K (hb : BL X) : BL (ofX X) := by
  unfold ofX
  split
  · exact bl_off (by rw [ux_n (by omega), ux_s])
  · exact hb
theorem pwX_K {x1 x2 : Int32} (hI : IX N X) (hb : BL X) : BL (pwX X x1 x2) := by
  unfold pwX itp
  split
  · have u : ∀ q, q ≠ 4 → q ≠ 5 → ux (ux X 4 (tn x1)) 5 (tn x2) q = X q := fun q h4 h5 => by rw [ux_n h5, ux_n h4]
    exact bl_ex hb hI.1.2.2.2.1 hI.1.2.1 (u _ (by omega) (by omega)) (u _ (by omega) (by omega)) (u _ (by omega) (by omega)) (u _ (by omega) (by omega)) (fun q hq => u q (by omega) (by omega))
  · exact hb
theorem rtX_K {x1 x2 x3 : Int32} (hb : BL X) : BL (rtX X x1 x2 x3) := by
  unfold rtX itp
  split
  · rename_i g
    exact bl_off (by rw [ux_n (by omega)]; exact g.1)
  · exact hb
theorem bgX_K (hI : IX N X) (hb : BL X) : BL (bgX X) := by
  unfold bgX
  split
  · have u : ∀ q, q ≠ 10 → q ≠ 11 → ux (ux X 10 1) 11 0 q = X q := fun q a b => by rw [ux_n b, ux_n a]
    exact bl_ex hb hI.1.2.2.2.1 hI.1.2.1 (u _ (by omega) (by omega)) (u _ (by omega) (by omega)) (u _ (by omega) (by omega)) (u _ (by omega) (by omega)) (fun q hq => u q (by omega) (by omega))
  · exact hb
theorem x10_K (hI : IX N X) (hb : BL X) : BL (ux X 10 0) := bl_ex hb hI.1.2.2.2.1 hI.1.2.1 (ux_n (by omega)) (ux_n (by omega)) (ux_n (by omega)) (ux_n (by omega)) (fun q hq => ux_n (by omega))
theorem abX_K (hI : IX N X) (hb : BL X) : BL (abX X) := by
  unfold abX
  split
  · exact hb
  · exact x10_K hI hb
theorem hnX_K (hI : IX N X) (hb : BL X) : BL (hnX X) := by
  unfold hnX
  split
  · exact bl_gz gz_hoZ (fun hz h2 => bz_hoZ (Z := (ux X 8 0, false)) (x8_XB hI.1) (x8_3 hI.2.1) (bz_0 hb h2 hI.1.2.2.2.1 hI.1.2.1) hz)
  · exact hb
theorem bmX_K {x : Int32} (hI : IX N X) (hb : BL X) : BL (bmX X x) := by
  have hB := hI.1
  have b1 := hB.2.2.2.1
  unfold bmX
  by_cases g : bmG X x
  · rw [itp_pos g]
    have G : GZ (ux X 8 0, false) (bmZ X (tn x)) := by
      unfold bmZ itp
      split
      · exact gz_wr
      · split
        · exact gz_tr gz_mrZ (gz_lay _ _)
        · exact gz_rf
    refine bl_gz G (fun hz h2 => ?_)
    have z0 := bz_0 hb h2 b1 hB.2.1
    by_cases hu : bmU X (tn x)
    · have ez : bmZ X (tn x) = guZ (ux X 8 0) (X 3) (bmP X (tn x)) (ux X 8 0, false) := by unfold bmZ; rw [itp_pos hu]
      have kd1 := kd_ct hB hu.1 g.2.2.1.1
      have h14 := (ent hB (nwt_i hB hu.1).1).2.2.1 kd1
      have hen := (ent hB (nwt_i hB hu.1).1).1
      have hfl := fzN_le (ux X 8 0) (X 3) (bmP X (tn x)) 8
      have := hu.2
      rw [ez]
      unfold guZ
      have e3 : (ux X 8 0, false).1 3 = X 3 := show ux X 8 0 3 = X 3 from ux_n (by omega)
      have e1 : (ux X 8 0, false).1 1 = X 1 := show ux X 8 0 1 = X 1 from ux_n (by omega)
      have := bz_wr (Z := (ux X 8 0, false)) (p := bmP X (tn x) + (fzN (ux X 8 0) (X 3) (bmP X (tn x)) 8 - 1)) (v := bt (ux X 8 0) (X 3) (bmP X (tn x) + (fzN (ux X 8 0) (X 3) (bmP X (tn x)) 8 - 1)) - hb8 (bt (ux X 8 0) (X 3) (bmP X (tn x) + (fzN (ux X 8 0) (X 3) (bmP X (tn x)) 8 - 1)))) z0 (by rw [e1]; exact b1) (by unfold bmP at *; omega)
      rw [e3] at this
      exact this
    · by_cases hf : fits 14 (ux X 8 0, false)
      · have ez : bmZ X (tn x) = lyZ (cB (tn x) (bmV X (tn x) + 1)) (mrZ 14 (ux X 8 0, false)) := by unfold bmZ; rw [itp_neg hu, itp_pos hf]
        rw [ez] at hz ⊢
        exact bz_ly hI hb h2 hf (by omega) (by rw [cB_len]; omega) hz
      · have ez : bmZ X (tn x) = (ux X 8 0, false) := by unfold bmZ; rw [itp_neg hu, itp_neg hf]
        rw [ez]; exact z0
  · rw [itp_neg g]; exact hb
theorem cmX_K (hI : IX N X) (hb : BL X) : BL (cmX X) := by
  have hB := hI.1
  have b10 := hB.2.2.2.2.2.2.2.1
  unfold cmX
  split
  · exact hb
  · split
    · exact x10_K hI hb
    · rename_i h10 h11
      by_cases hf : fits (cmS X (X 11)) (ux X 8 0, false)
      · rw [itp_pos hf]
        have G : GZ (ux X 8 0, false) (cmF X) := gz_tr gz_mrZ (gz_lay _ _)
        have k1 : BL (cmF X).1 := bl_gz G (fun hz h2 => bz_ly hI hb h2 hf (by have := cmS_ge X (X 11); omega) (by rw [cmL_len]; omega) hz)
        have IF : IX (N + 2) (cmF X).1 := ⟨lyZ_XB (mrZ_XB (x8_XB hB) (x8_3 hI.2.1)), lyZ_3 (mrZ_3 (x8_XB hB) (x8_3 hI.2.1)), dn_C hI.2.2 hB (dn_tr (dn_ux (by omega)) (dn_tr (dn_mrZ (Z := (ux X 8 0, false))) (dn_lay _ _)))⟩
        exact x10_K IF k1
      · rw [itp_neg hf]
        exact bl_ex hb hB.2.2.2.1 hB.2.1 (ux_n (by omega)) (ux_n (by omega)) (ux_n (by omega)) (ux_n (by omega)) (fun q hq => ux_n (by omega))
theorem eo_bl {u : Nat} {Z : Zt} (hB : XB N Z.1) : ∀ j, j ≤ 6 → (eoN u j Z).2 = false → ∀ s, s < j → s ≠ u → blnk (eoN u j Z).1 s 0
  | 0, _, _ => fun s hs => absurd hs (by omega)
  | j + 1, hj, hz => by
    intro s hs hne
    have hBj := eoN_XB (u := u) hB j (by omega)
    have b1 := hBj.2.2.2.1
    by_cases g : j = u ∨ blnk (eoN u j Z).1 j 0
    · have e : eoN u (j + 1) Z = eoN u j Z := itp_pos g
      rw [e] at hz ⊢
      by_cases es : s = j
      · rcases g with g | g
        · omega
        · rw [es]; exact g
      · exact eo_bl hB j (by omega) hz s (by omega) hne
    · have e : eoN u (j + 1) Z = er j (eoN u j Z) := itp_neg g
      rw [e] at hz ⊢
      have ho := er_ok hz
      by_cases es : s = j
      · subst es
        intro q _ h2
        rw [er_far fq1] at h2
        exact ho.2.2 q h2
      · exact bl_o b1 (er_far fq1) (fun q hq => er_o hBj es (by omega) hq) (eo_bl hB j (by omega) ho.1 s (by omega) hne)
theorem onXX_K (hI : IX N X) (hb : BL X) : BL (onXX X) := by
  have hB := hI.1
  have b0 := hB.1
  have b6 := hB.2.1
  have b1 := hB.2.2.2.1
  unfold onXX
  split
  rotate_left
  · exact hb
  have hZB : XB N (ux X 8 0) := x8_XB hB
  have u0 : (ux X 8 0) 0 = X 0 := ux_n (by omega)
  have u1 : (ux X 8 0) 1 = X 1 := ux_n (by omega)
  have fin : ∀ s (Z : Zt), Z.1 0 = X 0 → Z.1 1 = X 1 → GZ (ux X 8 0, false) Z → (Z.2 = false → ∀ s', s' < X 0 → s' ≠ s → blnk Z.1 s' 0) → BL (onX s Z).1 := by
    intro s Z e0 e1 G hbl c s' hs' hne
    cases hz : Z.2 with
    | true =>
      have eo : onX s Z = Z := by unfold onX; rw [if_pos hz]
      rw [eo] at c
      have := (G.1 hz nff).1
      omega
    | false =>
      have eo : onX s Z = (ux (ux Z.1 2 1) 3 s, false) := by unfold onX; rw [if_neg (by rw [hz]; decide)]
      rw [eo] at hs' hne ⊢
      dsimp only at hs' hne ⊢
      rw [ux_n (by omega), ux_n (by omega), e0] at hs'
      rw [ux_s] at hne
      refine bl_o (A := Z.1) (by rw [e1]; exact b1) (by rw [ux_n (by omega), ux_n (by omega)]) (fun q _ => ?_) (hbl hz s' hs' hne)
      unfold bt; rw [ux_n (by omega), ux_n (by omega)]
  unfold onZ swZ
  dsimp only
  have hfl := fdN_le (ux X 8 0) ((ux X 8 0) 0)
  split
  · have hl := leN_le (eoN 9 ((ux X 8 0) 0) (ux X 8 0, false)).1 9 ((ux X 8 0) 0)
    refine fin _ _ (by rw [wr_far fq0, mkr_far fq0, eoN_far fq0]; exact u0) (by rw [wr_far fq1, mkr_far fq1, eoN_far fq1]; exact u1) (gz_tr (gz_eoN _) (gz_tr gz_mkr gz_wr)) (fun hz s' hs' hne => ?_)
    have z1 := (gz_wr (s := leN (eoN 9 ((ux X 8 0) 0) (ux X 8 0, false)).1 9 ((ux X 8 0) 0) - 1) (p := 0) (v := 63) (Z := mkr (leN (eoN 9 ((ux X 8 0) 0) (ux X 8 0, false)).1 9 ((ux X 8 0) 0) - 1) 1 (eoN 9 ((ux X 8 0) 0) (ux X 8 0, false)))).2 hz |>.1
    have z2 := (gz_mkr (s := leN (eoN 9 ((ux X 8 0) 0) (ux X 8 0, false)).1 9 ((ux X 8 0) 0) - 1) (n := 1) (Z := eoN 9 ((ux X 8 0) 0) (ux X 8 0, false))).2 z1 |>.1
    have hbl := eo_bl (u := 9) (Z := (ux X 8 0, false)) hZB ((ux X 8 0) 0) (by omega) z2 s' (by rw [u0]; exact hs') (by omega)
    have f1 : (eoN 9 ((ux X 8 0) 0) (ux X 8 0, false)).1 1 = X 1 := by rw [eoN_far fq1]; exact u1
    refine bl_o (by rw [f1]; exact b1) (by rw [wr_far fq1, mkr_far fq1]) (fun q hq => ?_) hbl
    rw [wr_o hne (by omega) hq, mkr_o hne hq]
  · refine fin _ _ (by rw [eoN_far fq0]; exact u0) (by rw [eoN_far fq1]; exact u1) (gz_eoN _) (fun hz s' hs' hne => ?_)
    exact eo_bl (Z := (ux X 8 0, false)) hZB ((ux X 8 0) 0) (by omega) hz s' (by rw [u0]; exact hs') hne
/-! the same wear -/
theorem exB_le0 (X : Nat → Nat) : ∀ d, d ≤ 5 → exB X 0 d = leN X 9 (d + 1) - 1
  | 0, _ => by
    show 0 = (if (0 : Nat) = 9 then leN X 9 0 else if leN X 9 0 = 0 then 0 + 1 else _) - 1
    rw [if_neg (by omega), if_pos (show leN X 9 0 = 0 from rfl)]
  | d + 1, h => by
    have ih := exB_le0 X d (by omega)
    have hp : ∀ e, leN X 9 (e + 1) ≠ 0 := by
      intro e
      induction e with
      | zero =>
        show (if (0 : Nat) = 9 then leN X 9 0 else if leN X 9 0 = 0 then 0 + 1 else _) ≠ 0
        rw [if_neg (by omega), if_pos (show leN X 9 0 = 0 from rfl)]; omega
      | succ e ih2 =>
        show (if e + 1 = 9 then leN X 9 (e + 1) else if leN X 9 (e + 1) = 0 then e + 1 + 1 else if X (36 + (leN X 9 (e + 1) - 1)) ≤ X (36 + (e + 1)) then leN X 9 (e + 1) else e + 1 + 1) ≠ 0
        (repeat' split) <;> omega
    have e2 : leN X 9 (d + 1 + 1) = if X (36 + (leN X 9 (d + 1) - 1)) ≤ X (36 + (d + 1)) then leN X 9 (d + 1) else d + 1 + 1 := by
      show (if d + 1 = 9 then leN X 9 (d + 1) else if leN X 9 (d + 1) = 0 then d + 1 + 1 else _) = _
      rw [if_neg (by omega), if_neg (hp d)]
    have e1 : exB X 0 (d + 1) = if X (36 + exB X 0 d) ≤ X (36 + (d + 1)) then exB X 0 d else d + 1 := by
      show (if (0 : Int32) = 0 then _ else _) = _
      rw [if_pos rfl]
    rw [e1, e2, ih]
    split
    · rfl
    · omega
theorem exB_me (X : Nat → Nat) : ∀ d, X (36 + exB X 1 d) = meN X (d + 1)
  | 0 => by
    show X (36 + 0) = if 0 < X (36 + 0) then X (36 + 0) else 0
    split <;> omega
  | d + 1 => by
    have ih := exB_me X d
    have e1 : exB X 1 (d + 1) = if X (36 + (d + 1)) ≤ X (36 + exB X 1 d) then exB X 1 d else d + 1 := by
      show (if (1 : Int32) = 0 then _ else _) = _
      rw [if_neg (by decide)]
    have e2 : meN X (d + 1 + 1) = if meN X (d + 1) < X (36 + (d + 1)) then X (36 + (d + 1)) else meN X (d + 1) := rfl
    rw [e1, e2, ← ih]
    by_cases g : X (36 + (d + 1)) ≤ X (36 + exB X 1 d)
    · rw [if_pos g, if_neg (by omega)]
    · rw [if_neg g, if_pos (by omega)]
theorem leN_er {A B : Nat → Nat} (u : Nat) : ∀ j, j ≤ 6 → (∀ q, 36 ≤ q → q < 42 → A q = B q) → leN A u j = leN B u j
  | 0, _, _ => rfl
  | j + 1, hj, h => by
    have ih := leN_er u j (by omega) h
    have hle := leN_le B u j
    show (if j = u then leN A u j else if leN A u j = 0 then j + 1 else if A (36 + (leN A u j - 1)) ≤ A (36 + j) then leN A u j else j + 1) = (if j = u then leN B u j else if leN B u j = 0 then j + 1 else if B (36 + (leN B u j - 1)) ≤ B (36 + j) then leN B u j else j + 1)
    rw [ih]
    by_cases g0 : leN B u j = 0
    · rw [if_pos g0, if_pos g0]
    · rw [h (36 + (leN B u j - 1)) (by omega) (by omega), h (36 + j) (by omega) (by omega)]
theorem meN_er {A B : Nat → Nat} : ∀ j, j ≤ 6 → (∀ q, 36 ≤ q → q < 42 → A q = B q) → meN A j = meN B j
  | 0, _, _ => rfl
  | j + 1, hj, h => by
    show (if meN A j < A (36 + j) then A (36 + j) else meN A j) = (if meN B j < B (36 + j) then B (36 + j) else meN B j)
    rw [meN_er j (by omega) h, h (36 + j) (by omega) (by omega)]
theorem ws_rel (hI : IX N X) (hb : BL X) (h2 : X 2 = 1) : ∀ k, (wsN X (X 3) k).2 = (wcN X (X 3) k).2 ∧ (∀ q, 36 ≤ q → q < 42 → (wsN X (X 3) k).1 q = (wcN X (X 3) k).1 q) ∧ ∀ s, s < X 0 → s ≠ (wsN X (X 3) k).2 → ∀ q, q < X 1 → bt (wsN X (X 3) k).1 s q = 255
  | 0 => ⟨rfl, fun _ _ _ => rfl, fun s hs hne q hq => hb h2 s hs hne q (Nat.zero_le _) hq⟩
  | k + 1 => by
    have hB := hI.1
    have b0 := hB.1
    have b6 := hB.2.1
    have b1 := hB.2.2.2.1
    obtain ⟨e2, eE, hbl⟩ := ws_rel hI hb h2 k
    obtain ⟨w1, w2, w3⟩ := wsN_I hB hI.2.1 k
    obtain ⟨v1, v2, v3, v4⟩ := wcN_I hB hI.2.1 k
    have y0 := w3 0 (by omega)
    have y1 := w3 1 (by omega)
    have z0 : (wcN X (X 3) k).1 0 = X 0 := v4 0 (by omega)
    rw [show wsN X (X 3) (k + 1) = wrS (wsN X (X 3) k) from rfl, show wcN X (X 3) (k + 1) = wcS (wcN X (X 3) k) from rfl, wrS_e]
    unfold wcS
    have el : leN (wsN X (X 3) k).1 (wsN X (X 3) k).2 ((wsN X (X 3) k).1 0) = leN (wcN X (X 3) k).1 (wcN X (X 3) k).2 ((wcN X (X 3) k).1 0) := by
      rw [y0, z0, e2]; exact leN_er _ _ b6 eE
    have hle := leN_le (wsN X (X 3) k).1 (wsN X (X 3) k).2 ((wsN X (X 3) k).1 0)
    have hne := leN_ne (wsN X (X 3) k).1 (wsN X (X 3) k).2 ((wsN X (X 3) k).1 0)
    have hp := leN_pos (wsN X (X 3) k).1 (wsN X (X 3) k).2 ((wsN X (X 3) k).1 0) (by rw [y0]; exact b0)
    rw [← el]
    generalize (wsN X (X 3) k).1 = Y at *
    generalize (wsN X (X 3) k).2 = u at *
    generalize (wcN X (X 3) k).1 = E at *
    have hn : leN Y u (Y 0) - 1 < X 0 := by omega
    have hnu : leN Y u (Y 0) - 1 ≠ u := by omega
    generalize leN Y u (Y 0) - 1 = n at *
    have hbn : blnk Y n 0 := fun q _ hq => hbl n hn hnu q (by rw [← y1]; exact hq)
    have ew : wrA Y n = Y := by unfold wrA; rw [itp_pos hbn]
    rw [ew, y1, ← e2]
    refine ⟨rfl, fun q h36 h42 => ?_, fun s hs hsn q hq => ?_⟩
    · dsimp only
      by_cases g : q = 36 + u
      · rw [g, ux_s, ux_s, eE _ (by omega) (by omega)]
      · rw [ux_n g, ux_n g, flS_lo (by omega), flS_lo (by omega)]; exact eE q h36 h42
    · dsimp only at hsn ⊢
      unfold bt
      rw [ux_n (by omega)]
      unfold flS
      by_cases g : s = u
      · rw [if_pos (by omega)]
      · rw [if_neg (by omega), if_neg (by omega)]
        exact hbl s hs g q hq
theorem ws_eq (hI : IX N X) (hb : BL X) (x1 x2 : Int32) : wsB X x1 x2 = wsA X x1 x2 := by
  have hB := hI.1
  have b0 := hB.1
  have b6 := hB.2.1
  unfold wsB wsA
  by_cases g : X 2 = 1 ∧ tn x1 ≤ 1000 ∧ tn x2 ≤ 2
  · rw [itp_pos g, itp_pos g]
    obtain ⟨e2, eE, _⟩ := ws_rel hI hb g.1 (tn x1)
    obtain ⟨w1, w2, w3⟩ := wsN_I hB hI.2.1 (tn x1)
    obtain ⟨v1, v2, v3, v4⟩ := wcN_I hB hI.2.1 (tn x1)
    have y0 := w3 0 (by omega)
    have z0 : (wcN X (X 3) (tn x1)).1 0 = X 0 := v4 0 (by omega)
    by_cases h2 : x2 = 2
    · rw [if_pos h2, if_pos h2, e2]
    · rw [if_neg h2, if_neg h2]
      by_cases h0 : x2 = 0
      · rw [if_pos h0, if_pos h0]
        unfold exV
        rw [exB_me (wsN X (X 3) (tn x1)).1, y0, show X 0 - 1 + 1 = X 0 by omega, meN_er (X 0) b6 eE]
      · rw [if_neg h0, if_neg h0]
        unfold exV feN
        rw [y0, z0, exB_le0 _ _ (by omega), show X 0 - 1 + 1 = X 0 by omega, leN_er 9 (X 0) b6 eE]
        have hl := leN_le (wcN X (X 3) (tn x1)).1 9 (X 0)
        rw [eE _ (by omega) (by omega)]
  · rw [itp_neg g, itp_neg g]
end WS
