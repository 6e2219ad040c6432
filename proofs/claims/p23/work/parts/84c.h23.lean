/-! torn: a doing that is reached takes power away -/
def Cn (n : Nat) (Z Z' : Zt) : Prop := O4 Z ∧ ((Z'.2 = true ∧ Z'.1 4 = 0 ∧ n ≤ Z.1 8) ∨ (Z'.2 = false ∧ Z'.1 4 + Z.1 8 = n ∧ 0 < Z'.1 4))
def Sm (n : Nat) (Z Z' : Zt) : Prop := Cn n Z Z' ∧ (Z'.2 = false → ∀ q, q ≠ 4 → q ≠ 5 → Z'.1 q = Z.1 q)
section TN
variable {X : Nat → Nat} {N n : Nat}
theorem wr_g {s p v : Nat} {Z : Zt} (h : Z.2 = true) : wr s p v Z = Z := by unfold wr; rw [if_pos h]
theorem er_g {s : Nat} {Z : Zt} (h : Z.2 = true) : er s Z = Z := by unfold er; rw [if_pos h]
theorem cn_wr {s p v s' p' v' : Nat} {Z Z' : Zt} (h : Cn n Z Z') : Cn n (wr s p v Z) (wr s' p' v' Z') := by
  obtain ⟨o, h⟩ := h
  obtain ⟨o1, e8⟩ := o4_wr (s := s) (p := p) (v := v) o
  refine ⟨o1, ?_⟩
  rcases h with ⟨h1, h2, h3⟩ | ⟨h1, h2, h3⟩
  · rw [wr_g h1, e8]; exact Or.inl ⟨h1, h2, by omega⟩
  · have e : wr s' p' v' Z' = (ux (goX (ux Z'.1 9 (Z'.1 9 + 1))) (42 + 128 * s' + p') (bt Z'.1 s' p' &&& (if Z'.1 4 = 1 then v' ||| (255 ^^^ Z'.1 5) else v')), decide (Z'.1 4 = 1)) := by unfold wr; rw [if_neg (by rw [h1]; decide)]
    have e4 : (wr s' p' v' Z').1 4 = Z'.1 4 - 1 := by rw [e]; dsimp only; rw [ux_n (by omega), goX_4, ux_n (by omega)]
    have eg : (wr s' p' v' Z').2 = decide (Z'.1 4 = 1) := by rw [e]
    rw [e4, eg, e8]
    by_cases g : Z'.1 4 = 1
    · exact Or.inl ⟨decide_eq_true g, by omega, by omega⟩
    · exact Or.inr ⟨decide_eq_false g, by omega, by omega⟩
theorem cn_er {s s' : Nat} {Z Z' : Zt} (h : Cn n Z Z') : Cn n (er s Z) (er s' Z') := by
  obtain ⟨o, h⟩ := h
  obtain ⟨o1, e8⟩ := o4_er (s := s) o
  refine ⟨o1, ?_⟩
  rcases h with ⟨h1, h2, h3⟩ | ⟨h1, h2, h3⟩
  · rw [er_g h1, e8]; exact Or.inl ⟨h1, h2, by omega⟩
  · have e : er s' Z' = ((fun q => if 42 + 128 * s' ≤ q ∧ q < 42 + 128 * s' + erm Z'.1 then 255 else goX (ux Z'.1 (36 + s') (Z'.1 (36 + s') + 1)) q), decide (Z'.1 4 = 1)) := by unfold er; rw [if_neg (by rw [h1]; decide)]
    have e4 : (er s' Z').1 4 = Z'.1 4 - 1 := by rw [e]; dsimp only; rw [if_neg (by omega), goX_4, ux_n (by omega)]
    have eg : (er s' Z').2 = decide (Z'.1 4 = 1) := by rw [e]
    rw [e4, eg, e8]
    by_cases g : Z'.1 4 = 1
    · exact Or.inl ⟨decide_eq_true g, by omega, by omega⟩
    · exact Or.inr ⟨decide_eq_false g, by omega, by omega⟩
theorem cn_lay {s s' : Nat} : ∀ (l l' : List Nat) (p p' : Nat) {Z Z' : Zt}, l.length = l'.length → Cn n Z Z' → Cn n (lay s p l Z) (lay s' p' l' Z')
  | [], [], _, _, _, _, _, h => h
  | _ :: l, _ :: l', p, p', _, _, hl, h => cn_lay l l' (p + 1) (p' + 1) (by simpa using hl) (cn_wr h)
  | [], _ :: _, _, _, _, _, hl, _ => absurd hl (by simp)
  | _ :: _, [], _, _, _, _, hl, _ => absurd hl (by simp)
theorem goX_lo {q : Nat} {A : Nat → Nat} (h : A 4 ≠ 1) (q4 : q ≠ 4) : goX A q = ux A 8 (A 8 + 1) q := by
  unfold goX
  split
  · rfl
  · rw [ux_n q4]
theorem sm_wr2 {s p v : Nat} {Z Z' : Zt} (h : Sm n Z Z') : Sm n (wr s p v Z) (wr s p v Z') := by
  refine ⟨cn_wr h.1, fun hz q q4 q5 => ?_⟩
  obtain ⟨⟨o, hc⟩, hq⟩ := h
  have hz1 : Z'.2 = false := (gz_wr (s := s) (p := p) (v := v) (Z := Z')).2 hz |>.1
  have hq := hq hz1
  have n1 : Z'.1 4 ≠ 1 := (wr_ok hz).2.1
  have e' : (wr s p v Z').1 = ux (goX (ux Z'.1 9 (Z'.1 9 + 1))) (42 + 128 * s + p) (bt Z'.1 s p &&& v) := (wr_ok hz).2.2
  have e : (wr s p v Z).1 = ux (goX (ux Z.1 9 (Z.1 9 + 1))) (42 + 128 * s + p) (bt Z.1 s p &&& v) := (wr_ok (o4_wr o).1.1).2.2
  have b : bt Z'.1 s p = bt Z.1 s p := hq _ (by omega) (by omega)
  rw [e, e', b]
  by_cases g : q = 42 + 128 * s + p
  · rw [g, ux_s, ux_s]
  · rw [ux_n g, ux_n g, goX_lo (by rw [ux_n (by omega)]; exact n1) q4, goX_lo (by rw [ux_n (by omega), o.2]; decide) q4]
    have e8 : Z'.1 8 = Z.1 8 := hq 8 (by omega) (by omega)
    have e9 : Z'.1 9 = Z.1 9 := hq 9 (by omega) (by omega)
    by_cases g8 : q = 8
    · rw [g8, ux_s, ux_s, ux_n (by omega), ux_n (by omega), e8]
    · rw [ux_n g8, ux_n g8]
      by_cases g9 : q = 9
      · rw [g9, ux_s, ux_s, e9]
      · rw [ux_n g9, ux_n g9]; exact hq q q4 q5
theorem sm_er2 {s : Nat} (hs : s < 6) {Z Z' : Zt} (h : Sm n Z Z') : Sm n (er s Z) (er s Z') := by
  refine ⟨cn_er h.1, fun hz q q4 q5 => ?_⟩
  obtain ⟨⟨o, hc⟩, hq⟩ := h
  have hz1 : Z'.2 = false := (gz_er (s := s) (Z := Z')).2 hz |>.1
  have hq := hq hz1
  have n1 : Z'.1 4 ≠ 1 := (er_ok hz).2.1
  have e' : er s Z' = ((fun q => if 42 + 128 * s ≤ q ∧ q < 42 + 128 * s + erm Z'.1 then 255 else goX (ux Z'.1 (36 + s) (Z'.1 (36 + s) + 1)) q), decide (Z'.1 4 = 1)) := by unfold er; rw [if_neg (by rw [hz1]; decide)]
  have e : er s Z = ((fun q => if 42 + 128 * s ≤ q ∧ q < 42 + 128 * s + erm Z.1 then 255 else goX (ux Z.1 (36 + s) (Z.1 (36 + s) + 1)) q), decide (Z.1 4 = 1)) := by unfold er; rw [if_neg (by rw [o.1]; decide)]
  have m' : erm Z'.1 = Z.1 1 := by unfold erm; rw [if_neg n1]; exact hq 1 (by omega) (by omega)
  have m : erm Z.1 = Z.1 1 := by unfold erm; rw [if_neg (by rw [o.2]; decide)]
  rw [e, e']
  dsimp only
  rw [m, m']
  split
  · rfl
  · rw [goX_lo (by rw [ux_n (by omega)]; exact n1) q4, goX_lo (by rw [ux_n (by omega), o.2]; decide) q4]
    have e8 : Z'.1 8 = Z.1 8 := hq 8 (by omega) (by omega)
    have e36 : Z'.1 (36 + s) = Z.1 (36 + s) := hq _ (by omega) (by omega)
    by_cases g8 : q = 8
    · rw [g8, ux_s, ux_s, ux_n (by omega), ux_n (by omega), e8]
    · rw [ux_n g8, ux_n g8]
      by_cases g9 : q = 36 + s
      · rw [g9, ux_s, ux_s, e36]
      · rw [ux_n g9, ux_n g9]; exact hq q q4 q5
theorem sm_lay2 {s : Nat} : ∀ (l : List Nat) (p : Nat) {Z Z' : Zt}, Sm n Z Z' → Sm n (lay s p l Z) (lay s p l Z')
  | [], _, _, _, h => h
  | _ :: l, p, _, _, h => sm_lay2 l (p + 1) (sm_wr2 h)
theorem sm_mkr2 {s m : Nat} {Z Z' : Zt} (h : Sm n Z Z') : Sm n (mkr s m Z) (mkr s m Z') := sm_wr2 (sm_wr2 (sm_wr2 (sm_wr2 h)))
theorem sm_hoN2 {s m : Nat} {Z Z' : Zt} (h : Sm n Z Z') : ∀ t, Sm n (hoN X s m t Z) (hoN X s m t Z')
  | 0 => h
  | t + 1 => by
    by_cases g : hv X s t
    · rw [hoN_hv g, hoN_hv g]; exact sm_lay2 _ _ (sm_hoN2 h t)
    · rw [hoN_no g, hoN_no g]; exact sm_hoN2 h t
theorem hoN_cg {Y : Nat → Nat} (h : CG X Y) (s m : Nat) (Z : Zt) : ∀ t, hoN Y s m t Z = hoN X s m t Z
  | 0 => rfl
  | t + 1 => by
    by_cases g : hv X s t
    · rw [hoN_hv g, hoN_hv (by rw [hv_cg h]; exact g), hoN_cg h s m Z t, szN_cg h, eB_cg h, nwt_cg h]
    · rw [hoN_no g, hoN_no (by rw [hv_cg h]; exact g), hoN_cg h s m Z t]
theorem sm_hoZ2 {Z Z' : Zt} (hB : XB N Z.1) (h3 : Z.1 3 < Z.1 0) (h : Sm n Z Z') (hz : Z'.2 = false) : Sm n (hoZ Z) (hoZ Z') := by
  have b6 := hB.2.1
  have hq := h.2 hz
  have cg : CG Z.1 Z'.1 := ⟨⟨hq 0 (by omega) (by omega), hq 1 (by omega) (by omega), hq 3 (by omega) (by omega)⟩, fun q _ => hq q (by omega) (by omega)⟩
  have hh := hon_s hB (b := Z.2)
  have hhn : hon Z < Z.1 0 ∧ hon Z ≠ Z.1 3 := hh
  have eh : hon Z' = hon Z := hon_cg cg Z'.2 Z.2
  have e3 : Z'.1 3 = Z.1 3 := cg.1.2.2
  have s1 : Sm n (ho1 Z) (ho1 Z') := by
    unfold ho1
    rw [eh, blnk_cg cg]
    by_cases g : blnk Z.1 (hon Z) 0
    · rw [itp_pos g, itp_pos g]; exact h
    · rw [itp_neg g, itp_neg g]; exact sm_er2 (by omega) h
  have s2 : Sm n (ho2 Z) (ho2 Z') := by
    unfold ho2
    rw [eh, e3, nb_cg cg]
    exact sm_mkr2 s1
  have s3 : Sm n (ho3 Z) (ho3 Z') := by
    unfold ho3
    rw [eh, e3, hoN_cg cg]
    exact sm_hoN2 s2 48
  have s4 : Sm n (ho4 Z) (ho4 Z') := by
    unfold ho4
    rw [eh, e3]
    exact sm_er2 (by omega) (sm_wr2 s3)
  have ez : hoZ Z = (ux (ux (ho4 Z).1 3 (hon Z)) 7 ((ho4 Z).1 7 + 1), false) := by unfold hoZ; rw [if_neg (by rw [s4.1.1.1]; decide)]
  have z4 : (hoZ Z).1 4 = (ho4 Z).1 4 := by rw [ez]; dsimp only; rw [ux_n (by omega), ux_n (by omega)]
  have z8 : (hoZ Z).1 8 = (ho4 Z).1 8 := by rw [ez]; dsimp only; rw [ux_n (by omega), ux_n (by omega)]
  have oz : O4 (hoZ Z) := ⟨by rw [ez], by rw [z4]; exact s4.1.1.2⟩
  cases hg : (ho4 Z').2 with
  | true =>
    have ez' : hoZ Z' = ho4 Z' := by unfold hoZ; rw [if_pos hg]
    rw [ez']
    refine ⟨⟨oz, ?_⟩, fun c => by rw [hg] at c; exact absurd c (by decide)⟩
    rw [z8]; exact s4.1.2
  | false =>
    have ez' : hoZ Z' = (ux (ux (ho4 Z').1 3 (hon Z')) 7 ((ho4 Z').1 7 + 1), false) := by unfold hoZ; rw [if_neg (by rw [hg]; decide)]
    have z4' : (hoZ Z').1 4 = (ho4 Z').1 4 := by rw [ez']; dsimp only; rw [ux_n (by omega), ux_n (by omega)]
    have hq4 := s4.2 hg
    refine ⟨⟨oz, ?_⟩, fun _ q q4 q5 => ?_⟩
    · rw [z8, z4', show (hoZ Z').2 = (ho4 Z').2 by rw [ez', hg]]; exact s4.1.2
    · rw [ez, ez']
      dsimp only
      rw [eh]
      by_cases g7 : q = 7
      · rw [g7, ux_s, ux_s, hq4 7 (by omega) (by omega)]
      · rw [ux_n g7, ux_n g7]
        by_cases g3 : q = 3
        · rw [g3, ux_s, ux_s]
        · rw [ux_n g3, ux_n g3]; exact hq4 q q4 q5
theorem tn_gone (hI : IX N X) (h10 : X 10 ≠ 1) {t m v4 v5 : Nat} (W : Nat) (hm : m ≤ 4) (h5 : v5 ≤ 255) (h4 : 1 ≤ v4) (h9 : v4 ≤ 9999) (hc : ∃ k, coB X (3 + m) = nI k ∧ k < 2 ^ 31 ∧ v4 ≤ k) : (stZ (tnX X v4 v5) t m W).1 4 = 0 := by
  have hB := hI.1
  have h3 := hI.2.1
  have I4 : IX N (ux X 4 0) := x4_I hI (by omega)
  have hZB : XB N (ux (ux X 4 0) 8 0) := x8_XB I4.1
  have h30 := x8_3 I4.2.1
  have cg : CG X (ux (ux X 4 0) 8 0) := cg_tr (cg_ux (by omega)) (cg_ux (by omega))
  have cg2 : CG X (ux (tnX X v4 v5) 8 0) := cg_tr (cg_ux (by omega)) (cg_tr (cg_ux (by omega)) (cg_ux (by omega)))
  have o0 : O4 (ux (ux X 4 0) 8 0, false) := ⟨rfl, by dsimp only; rw [ux_n (by omega), ux_s]⟩
  have s0 : Sm v4 (ux (ux X 4 0) 8 0, false) (ux (tnX X v4 v5) 8 0, false) := by
    refine ⟨⟨o0, Or.inr ⟨rfl, ?_, ?_⟩⟩, fun _ q q4 q5 => ?_⟩
    · dsimp only; rw [ux_s, ux_n (by omega)]; unfold tnX; rw [ux_n (by omega), ux_s]; omega
    · dsimp only; rw [ux_n (by omega)]; unfold tnX; rw [ux_n (by omega), ux_s]; omega
    · dsimp only
      by_cases g8 : q = 8
      · rw [g8, ux_s, ux_s]
      · rw [ux_n g8, ux_n g8]; unfold tnX; rw [ux_n q5, ux_n q4, ux_n q4]
  have hf : fits (3 + m) (ux (ux X 4 0) 8 0, false) = (3 + m ≤ X 1 - frE X (X 3) ∨ 3 + m ≤ X 1 - szN X (X 3) 48) := by
    unfold fits
    dsimp only
    rw [cg.1.2.1, cg.1.2.2, frE_cg cg, szN_cg cg]
  have hf2 : fits (3 + m) (ux (tnX X v4 v5) 8 0, false) = (3 + m ≤ X 1 - frE X (X 3) ∨ 3 + m ≤ X 1 - szN X (X 3) 48) := by
    unfold fits
    dsimp only
    rw [cg2.1.2.1, cg2.1.2.2, frE_cg cg2, szN_cg cg2]
  obtain ⟨k, hk, hk31, hle⟩ := hc
  have wc := wc_eq hI h10 hm
  by_cases c : 3 + m ≤ X 1 - frE X (X 3) ∨ 3 + m ≤ X 1 - szN X (X 3) 48
  · have c1 : fits (3 + m) (ux (ux X 4 0) 8 0, false) := by rw [hf]; exact c
    have c2 : fits (3 + m) (ux (tnX X v4 v5) 8 0, false) := by rw [hf2]; exact c
    have sm : Sm v4 (mrZ (3 + m) (ux (ux X 4 0) 8 0, false)) (mrZ (3 + m) (ux (tnX X v4 v5) 8 0, false)) := by
      unfold mrZ
      dsimp only
      rw [cg.1.2.1, cg.1.2.2, frE_cg cg, cg2.1.2.1, cg2.1.2.2, frE_cg cg2]
      by_cases g : 3 + m ≤ X 1 - frE X (X 3)
      · rw [itp_pos g, itp_pos g]; exact s0
      · rw [itp_neg g, itp_neg g]; exact sm_hoZ2 hZB h30 s0 rfl
    have e2 : stZ (tnX X v4 v5) t m W = lyZ (sB 16 t m W) (mrZ (3 + m) (ux (tnX X v4 v5) 8 0, false)) := by unfold stZ; rw [itp_pos c2]
    have e1 : stZ (ux X 4 0) 0 m (0 : Int32).toInt64.toBitVec.toNat = lyZ (sB 16 0 m (0 : Int32).toInt64.toBitVec.toNat) (mrZ (3 + m) (ux (ux X 4 0) 8 0, false)) := by unfold stZ; rw [itp_pos c1]
    have cn : Cn v4 (stZ (ux X 4 0) 0 m (0 : Int32).toInt64.toBitVec.toNat) (stZ (tnX X v4 v5) t m W) := by
      rw [e1, e2]
      unfold lyZ
      exact cn_lay _ _ _ _ (by rw [sB_len, sB_len]) sm.1
    obtain ⟨o, hcn⟩ := cn
    rcases hcn with ⟨_, h, _⟩ | ⟨_, h, hp⟩
    · exact h
    · -- then more doings were left than there are
      have d8 := d8_stZ (X := ux X 4 0) (t := 0) (n := m) (W := (0 : Int32).toInt64.toBitVec.toNat) hm
      have ek : nI ((stZ (ux X 4 0) 0 m (0 : Int32).toInt64.toBitVec.toNat).1 8) = nI k := by
        rw [← hk, ← wc]
        unfold wcA ssA
        rw [if_neg (by rw [ux_n (by omega)]; exact h10)]
        unfold stA
        rw [itp_pos c1]
        unfold tdI
        rw [if_neg (by rw [o.1]; decide)]
      have := (nI_eq (by omega) hk31).mp ek
      omega
  · exfalso
    unfold coB at hk
    rw [if_neg (fun g => c (Or.inl g)), if_neg (fun g => c (Or.inr g))] at hk
    exact absurd (by rw [← hk]; decide) (nI_pos hk31)
theorem o4_eoN {u : Nat} {Z : Zt} (h : O4 Z) : ∀ j, O4 (eoN u j Z)
  | 0 => h
  | j + 1 => by
    show O4 (itp _ _ _ : Zt)
    unfold itp
    split
    · exact o4_eoN h j
    · exact (o4_er (o4_eoN h j)).1
theorem on_ng {Y : Nat → Nat} (h : Y 4 = 0) : (onZ Y).2 = false := by
  have o0 : O4 (ux Y 8 0, false) := ⟨rfl, by dsimp only; rw [ux_n (by omega)]; exact h⟩
  have aux : ∀ s Z, O4 Z → (onX s Z).2 = false := by
    intro s Z hz
    unfold onX
    rw [if_neg (by rw [hz.1]; decide)]
  unfold onZ swZ
  split
  · exact aux _ _ (o4_wr (o4_mkr (o4_eoN o0 _)).1).1
  · exact aux _ _ (o4_eoN o0 _)
theorem tn_eq (hI : IX N X) {x1 x2 x3 x4 x5 x6 : Int32} {r : Int64} (e1 : tcG X x1 x3 x4 x5 x6 → (onZ (tcY X x1 x2 x3 x4 x5)).2 = false → r = tcB (tcY X x1 x2 x3 x4 x5) (tn x1) x6) (e0 : ¬ tcG X x1 x3 x4 x5 x6 → r = -1) : r = tnA X x1 x2 x3 x4 x5 x6 := by
  have b10 := hI.1.2.2.2.2.2.2.2.1
  have iff : tnG X x1 x3 x4 x5 x6 ↔ tcG X x1 x3 x4 x5 x6 := by
    constructor
    · rintro ⟨⟨g2, ⟨t, ht, et⟩, n, hn0, hn, en⟩, g10, g5, g6, gx, gl⟩
      have tt : tn x1 = t := by rw [et]; exact tn_nI (by omega)
      have tn3 : tn x3 = n := by rw [en]; exact tn_nI (by omega)
      refine ⟨⟨g2, by omega⟩, ⟨by omega, by omega, by omega⟩, ⟨gx, ?_⟩, g5, g6⟩
      rw [wc_eq hI g10 (by omega)] at gl
      exact Int32.not_lt.mpr gl
    · rintro ⟨⟨g2, g10⟩, ⟨a1, a2, a3⟩, ⟨gx, gl⟩, g5, g6⟩
      refine ⟨⟨g2, ⟨tn x1, a1, tn_e x1⟩, tn x3, a2, a3, tn_e x3⟩, by omega, g5, g6, gx, ?_⟩
      rw [wc_eq hI (by omega) a3]
      exact Int32.not_lt.mp gl
  unfold tnA
  by_cases g : tcG X x1 x3 x4 x5 x6
  · rw [itp_pos (iff.mpr g)]
    obtain ⟨⟨g2, g10⟩, ⟨a1, a2, a3⟩, ⟨gx, gl⟩, g5, g6⟩ := g
    have hx : ¬ x4 < 0 := fun c => gx (Int32.lt_trans c (by decide))
    have ht := tn_pos hx
    have h1 : 1 ≤ tn x4 := Nat.not_lt.mp (fun c => gx (by rw [tn_e x4, show tn x4 = 0 by omega]; decide))
    have hcd := coD_le X
    have hc : ∃ k, coB X (3 + tn x3) = nI k ∧ k < 2 ^ 31 ∧ tn x4 ≤ k ∧ k ≤ 2000 := by
      unfold coB at gl ⊢
      split
      · rename_i c
        rw [if_pos c, tn_e x4, nI_ltI (by omega) (by omega)] at gl
        exact ⟨_, rfl, by omega, by omega, by omega⟩
      · rename_i c
        rw [if_neg c] at gl
        split
        · rename_i c2
          rw [if_pos c2, tn_e x4, nI_ltI (by omega) (by omega)] at gl
          exact ⟨_, rfl, by omega, by omega, by omega⟩
        · rename_i c2
          rw [if_neg c2] at gl
          exact absurd (Int32.lt_of_lt_of_le (show (-2 : Int32) < 1 by decide) (Int32.not_lt.mp gx)) gl
    obtain ⟨k, hk, hk31, hle, hk2⟩ := hc
    have y4 : (tcY X x1 x2 x3 x4 x5) 4 = 0 := tn_gone hI (by omega) _ a3 g5 h1 (by omega) ⟨k, hk, hk31, hle⟩
    have er := e1 ⟨⟨g2, g10⟩, ⟨a1, a2, a3⟩, ⟨gx, gl⟩, g5, g6⟩ (on_ng y4)
    have ez : tnZ X x1 x2 x3 x4 x5 = onZ (tcY X x1 x2 x3 x4 x5) := by
      unfold tnZ onZ tcY ssX
      rw [if_neg (by unfold tnX; rw [ux_n (by omega), ux_n (by omega)]; omega)]
    rw [er, ez]
    unfold tcB tnB
    by_cases h0 : x6 = 0
    · rw [if_pos h0, if_pos h0]
    · rw [if_neg h0, if_neg h0]
      by_cases h1' : x6 = 1
      · rw [if_pos h1', if_pos h1']
      · rw [if_neg h1', if_neg h1']
        have ex := tn_e x6
        by_cases h2 : x6 = 2
        · rw [if_pos h2, if_neg (by rw [h2]; decide)]
        · have h3 : x6 = 3 := by
            have c0 : tn x6 ≠ 0 := fun c => h0 (by rw [ex, c]; rfl)
            have c1 : tn x6 ≠ 1 := fun c => h1' (by rw [ex, c]; rfl)
            have c2 : tn x6 ≠ 2 := fun c => h2 (by rw [ex, c]; rfl)
            rw [ex, show tn x6 = 3 by omega]; rfl
          rw [if_neg h2, if_pos h3, bc_eq]
  · rw [itp_neg (fun c => g (iff.mp c)), e0 g]
end TN
