/-! what a reading says rests on the bytes and the size alone -/
def CG (X Y : Nat → Nat) : Prop := (Y 0 = X 0 ∧ Y 1 = X 1 ∧ Y 3 = X 3) ∧ ∀ q, 36 ≤ q → Y q = X q
section CGS
variable {X Y : Nat → Nat} {N : Nat}
theorem bt_cg (h : CG X Y) (s p : Nat) : bt Y s p = bt X s p := h.2 _ (by omega)
theorem blnk_cg (h : CG X Y) (s p : Nat) : blnk Y s p = blnk X s p := by unfold blnk; simp only [h.1.2.1, bt_cg h]
theorem kd_cg (h : CG X Y) (s p : Nat) : kd Y s p = kd X s p := by unfold kd; rw [h.1.2.1, bt_cg h, bt_cg h]
theorem sz_cg (h : CG X Y) (s p : Nat) : sz Y s p = sz X s p := by unfold sz; rw [kd_cg h, bt_cg h]
theorem ps_cg (h : CG X Y) (s : Nat) : ∀ k, ps Y s k = ps X s k
  | 0 => rfl
  | k + 1 => by show ps Y s k + sz Y s (ps Y s k) = ps X s k + sz X s (ps X s k); rw [ps_cg h s k, sz_cg h]
theorem okE_cg (h : CG X Y) (s k : Nat) : okE Y s k = okE X s k := by unfold okE; rw [ps_cg h, kd_cg h, sz_cg h, blnk_cg h, h.1.2.1]
theorem IsE_cg (h : CG X Y) (s e : Nat) : IsE Y s e = IsE X s e := by unfold IsE; simp only [okE_cg h]
theorem nE_cg (h : CG X Y) (s : Nat) : nE Y s = nE X s := by
  unfold nE
  rw [show (fun e => IsE Y s e) = (fun e => IsE X s e) from funext (fun e => IsE_cg h s e)]
theorem frE_cg (h : CG X Y) (s : Nat) : frE Y s = frE X s := by unfold frE stopE; rw [nE_cg h, ps_cg h, blnk_cg h, h.1.2.1]
theorem sm_cg (h : CG X Y) (s p : Nat) : ∀ n, sm Y s p n = sm X s p n
  | 0 => rfl
  | n + 1 => by show sm Y s p n + bt Y s (p + n) = sm X s p n + bt X s (p + n); rw [sm_cg h s p n, bt_cg h]
theorem bad_cg (h : CG X Y) (s p : Nat) : bad Y s p = bad X s p := by unfold bad ckn; rw [kd_cg h, sz_cg h, sm_cg h, bt_cg h]
theorem due_cg (h : CG X Y) (s k : Nat) : due Y s k = due X s k := by unfold due; rw [ps_cg h, bt_cg h]
theorem cn_cg (h : CG X Y) (s k : Nat) : cn Y s k = cn X s k := by unfold cn; simp only [ps_cg h, kd_cg h, bad_cg h, due_cg h]
theorem st1_cg (h : CG X Y) (s j i : Nat) : st1 Y s j i = st1 X s j i := by unfold st1; simp only [ps_cg h, kd_cg h, bad_cg h, due_cg h, cn_cg h]
theorem nwN_cg (h : CG X Y) (s : Nat) : ∀ j t, nwN Y s j t = nwN X s j t
  | 0, _ => rfl
  | j + 1, t => by
    show itp _ _ _ = itp _ _ _
    rw [nwN_cg h s j t, kd_cg h, ps_cg h, st1_cg h, nE_cg h, bt_cg h]
theorem nwt_cg (h : CG X Y) (s t : Nat) : nwt Y s t = nwt X s t := by unfold nwt; rw [nE_cg h, nwN_cg h]
theorem ln_cg (h : CG X Y) (s i : Nat) : ln Y s i = ln X s i := by unfold ln; rw [ps_cg h, kd_cg h, bt_cg h]
theorem hv_cg (h : CG X Y) (s t : Nat) : hv Y s t = hv X s t := by unfold hv; rw [nwt_cg h, ln_cg h]
theorem szN_cg (h : CG X Y) (s : Nat) : ∀ t, szN Y s t = szN X s t
  | 0 => rfl
  | t + 1 => by
    show itp _ _ _ = itp _ _ _
    rw [szN_cg h s t, hv_cg h, nwt_cg h, ln_cg h, ps_cg h, kd_cg h]
theorem nm_cg (h : CG X Y) (s p : Nat) : ∀ n, nm Y s p n = nm X s p n
  | 0 => rfl
  | n + 1 => by show nm Y s p n * 256 + bt Y s (p + n) = nm X s p n * 256 + bt X s (p + n); rw [nm_cg h s p n, bt_cg h]
theorem zr_cg (h : CG X Y) (s p : Nat) : ∀ n, zr Y s p n = zr X s p n
  | 0 => rfl
  | n + 1 => by show zr Y s p n + (8 - pc8 (bt Y s (p + n))) = zr X s p n + (8 - pc8 (bt X s (p + n))); rw [zr_cg h s p n, bt_cg h]
theorem vlN_cg (h : CG X Y) (s i : Nat) : vlN Y s i = vlN X s i := by unfold vlN; rw [ps_cg h, kd_cg h, nm_cg h, zr_cg h, nm_cg h, ln_cg h]
theorem eB_cg (h : CG X Y) (s t i : Nat) : eB Y s t i = eB X s t i := by unfold eB; rw [ps_cg h, kd_cg h, vlN_cg h, ln_cg h]
theorem nb_cg (h : CG X Y) (s : Nat) : nb Y s = nb X s := by unfold nb; rw [bt_cg h, bt_cg h]
theorem vzN_cg (h : CG X Y) (s t : Nat) : vzN Y s t = vzN X s t := by unfold vzN; rw [hv_cg h, nwt_cg h, ps_cg h, sz_cg h]
theorem cwN_cg (h : CG X Y) (s : Nat) : ∀ t, cwN Y s t = cwN X s t
  | 0 => rfl
  | t + 1 => by
    show cwN Y s t + itp _ _ _ = cwN X s t + itp _ _ _
    rw [cwN_cg h s t, hv_cg h, vzN_cg h]
theorem leN_cg (h : CG X Y) (u : Nat) : ∀ j, leN Y u j = leN X u j
  | 0 => rfl
  | j + 1 => by
    show (if j = u then leN Y u j else if leN Y u j = 0 then j + 1 else if Y (36 + (leN Y u j - 1)) ≤ Y (36 + j) then leN Y u j else j + 1) = _
    rw [leN_cg h u j, h.2 _ (by omega), h.2 _ (by omega)]; rfl
theorem hon_cg (h : CG X Y) (a b : Bool) : hon (Y, a) = hon (X, b) := by
  show leN Y (Y 3) (Y 0) - 1 = leN X (X 3) (X 0) - 1
  rw [h.1.1, h.1.2.2, leN_cg h]
theorem coD_cg (h : CG X Y) : coD Y = coD X := by unfold coD; rw [hon_cg h false false, blnk_cg h, h.1.2.2, cwN_cg h]
theorem cg_rf : CG X X := ⟨⟨rfl, rfl, rfl⟩, fun _ _ => rfl⟩
theorem cg_ux {k v : Nat} (hk : k = 4 ∨ k = 8 ∨ k = 5 ∨ k = 2 ∨ k = 10) : CG X (ux X k v) := ⟨⟨ux_n (by omega), ux_n (by omega), ux_n (by omega)⟩, fun _ _ => ux_n (by omega)⟩
theorem cg_tr {Z : Nat → Nat} (h : CG X Y) (h2 : CG Y Z) : CG X Z := ⟨⟨h2.1.1.trans h.1.1, h2.1.2.1.trans h.1.2.1, h2.1.2.2.trans h.1.2.2⟩, fun q hq => (h2.2 q hq).trans (h.2 q hq)⟩
end CGS
/-! without a going of power every doing counts -/
def O4 (Z : Zt) : Prop := Z.2 = false ∧ Z.1 4 = 0
section OS
variable {X : Nat → Nat} {N : Nat}
theorem o4_wr {s p v : Nat} {Z : Zt} (h : O4 Z) : O4 (wr s p v Z) ∧ (wr s p v Z).1 8 = Z.1 8 + 1 := by
  have e : wr s p v Z = (ux (goX (ux Z.1 9 (Z.1 9 + 1))) (42 + 128 * s + p) (bt Z.1 s p &&& (if Z.1 4 = 1 then v ||| (255 ^^^ Z.1 5) else v)), decide (Z.1 4 = 1)) := by unfold wr; rw [if_neg (by rw [h.1]; decide)]
  refine ⟨⟨by rw [e]; exact decide_eq_false (by rw [h.2]; decide), ?_⟩, ?_⟩
  · rw [e]; dsimp only; rw [ux_n (by omega), goX_4, ux_n (by omega), h.2]
  · rw [e]; dsimp only; rw [ux_n (by omega), d8_go, ux_n (by omega)]
theorem o4_er {s : Nat} {Z : Zt} (h : O4 Z) : O4 (er s Z) ∧ (er s Z).1 8 = Z.1 8 + 1 := by
  have e : er s Z = ((fun q => if 42 + 128 * s ≤ q ∧ q < 42 + 128 * s + erm Z.1 then 255 else goX (ux Z.1 (36 + s) (Z.1 (36 + s) + 1)) q), decide (Z.1 4 = 1)) := by unfold er; rw [if_neg (by rw [h.1]; decide)]
  refine ⟨⟨by rw [e]; exact decide_eq_false (by rw [h.2]; decide), ?_⟩, ?_⟩
  · rw [e]; dsimp only; rw [if_neg (by omega), goX_4, ux_n (by omega), h.2]
  · rw [e]; dsimp only; rw [if_neg (by omega), d8_go, ux_n (by omega)]
theorem o4_lay {s : Nat} : ∀ (l : List Nat) (p : Nat) {Z : Zt}, O4 Z → O4 (lay s p l Z) ∧ (lay s p l Z).1 8 = Z.1 8 + l.length
  | [], _, _, h => ⟨h, rfl⟩
  | v :: l, p, Z, h => by
    have h1 := o4_wr (s := s) (p := p) (v := v) h
    have h2 := o4_lay (s := s) l (p + 1) h1.1
    refine ⟨h2.1, ?_⟩
    show (lay s (p + 1) l (wr s p v Z)).1 8 = _
    rw [h2.2, h1.2, List.length_cons]; omega
theorem o4_mkr {s n : Nat} {Z : Zt} (h : O4 Z) : O4 (mkr s n Z) ∧ (mkr s n Z).1 8 = Z.1 8 + 4 := by
  unfold mkr
  have h1 := o4_wr (s := s) (p := 1) (v := n / 256) h
  have h2 := o4_wr (s := s) (p := 2) (v := n % 256) h1.1
  have h3 := o4_wr (s := s) (p := 3) (v := (n / 256 + n % 256 + 85) % 251) h2.1
  have h4 := o4_wr (s := s) (p := 0) (v := 127) h3.1
  exact ⟨h4.1, by rw [h4.2, h3.2, h2.2, h1.2]⟩
theorem o4_hoN (hB : XB N X) {s n : Nat} {Z : Zt} (h : O4 Z) : ∀ t, t ≤ 48 → O4 (hoN X s n t Z) ∧ (hoN X s n t Z).1 8 = Z.1 8 + cwN X s t
  | 0, _ => ⟨h, rfl⟩
  | t + 1, ht => by
    have ih := o4_hoN hB (s := s) (n := n) h t (by omega)
    by_cases g : hv X s t
    · rw [hoN_hv g]
      have h2 := o4_lay (s := n) (eB X s t (nwt X s t - 1)) (szN X s t) ih.1
      refine ⟨h2.1, ?_⟩
      rw [h2.2, ih.2]
      show _ = Z.1 8 + (cwN X s t + itp _ _ _)
      rw [itp_pos g]
      have el : (eB X s t (nwt X s t - 1)).length = if t < 32 then vzN X s t else 6 := by
        by_cases h32 : t < 32
        · have k1 := kd_st hB g.1 h32
          rw [if_pos h32]
          unfold eB vzN
          rw [if_neg k1, itp_pos g, sB_len, hv_sz hB g, if_neg k1]
        · have k1 := kd_ct hB g.1 (by omega)
          rw [if_neg h32]
          unfold eB
          rw [if_pos k1, cB_len]
      rw [el]; omega
    · rw [hoN_no g]
      refine ⟨ih.1, ?_⟩
      rw [ih.2]
      show _ = Z.1 8 + (cwN X s t + itp _ _ _)
      rw [itp_neg g]; rfl
theorem o4_hoZ {Z : Zt} (hB : XB N Z.1) (h : O4 Z) : O4 (hoZ Z) ∧ (hoZ Z).1 8 = Z.1 8 + coD Z.1 := by
  have h1 : O4 (ho1 Z) ∧ (ho1 Z).1 8 = Z.1 8 + itp (blnk Z.1 (hon Z) 0) 0 1 := by
    unfold ho1
    by_cases g : blnk Z.1 (hon Z) 0
    · rw [itp_pos g, itp_pos g]; exact ⟨h, rfl⟩
    · rw [itp_neg g, itp_neg g]; exact o4_er h
  have h2 := o4_mkr (s := hon Z) (n := (nb Z.1 (Z.1 3) + 1) % 65536) h1.1
  have h3 := o4_hoN hB (s := Z.1 3) (n := hon Z) h2.1 48 (Nat.le_refl _)
  have h4 := o4_wr (s := hon Z) (p := 0) (v := 63) h3.1
  have h5 := o4_er (s := Z.1 3) h4.1
  change O4 (ho4 Z) ∧ (ho4 Z).1 8 = _ at h5
  have ez : hoZ Z = (ux (ux (ho4 Z).1 3 (hon Z)) 7 ((ho4 Z).1 7 + 1), false) := by unfold hoZ; rw [if_neg (by rw [h5.1.1]; decide)]
  refine ⟨⟨by rw [ez], ?_⟩, ?_⟩
  · rw [ez]; dsimp only; rw [ux_n (by omega), ux_n (by omega)]; exact h5.1.2
  · have e8 : (hoZ Z).1 8 = (ho4 Z).1 8 := by rw [ez]; dsimp only; rw [ux_n (by omega), ux_n (by omega)]
    rw [e8, h5.2, h4.2, h3.2, h2.2, h1.2]
    unfold coD
    rw [show hon (Z.1, false) = hon Z from rfl]
    omega
theorem wc_eq (hI : IX N X) (h10 : X 10 ≠ 1) {n : Nat} (hn : n ≤ 4) : wcA X n = coB X (3 + n) := by
  have hB := hI.1
  have I4 : IX N (ux X 4 0) := x4_I hI (by omega)
  have hZB : XB N (ux (ux X 4 0) 8 0) := x8_XB I4.1
  have cg : CG X (ux (ux X 4 0) 8 0) := cg_tr (cg_ux (by omega)) (cg_ux (by omega))
  have o0 : O4 (ux (ux X 4 0) 8 0, false) := ⟨rfl, by dsimp only; rw [ux_n (by omega), ux_s]⟩
  have e8 : (ux (ux X 4 0) 8 0, false).1 8 = 0 := show ux (ux X 4 0) 8 0 8 = 0 from ux_s
  unfold wcA ssA
  rw [if_neg (by rw [ux_n (by omega)]; exact h10)]
  unfold stA coB
  have hf : fits (3 + n) (ux (ux X 4 0) 8 0, false) = (3 + n ≤ X 1 - frE X (X 3) ∨ 3 + n ≤ X 1 - szN X (X 3) 48) := by
    unfold fits
    dsimp only
    rw [cg.1.2.1, cg.1.2.2, frE_cg cg, szN_cg cg]
  by_cases c : fits (3 + n) (ux (ux X 4 0) 8 0, false)
  · rw [itp_pos c]
    unfold stZ
    rw [itp_pos c]
    rw [hf] at c
    unfold mrZ
    dsimp only
    rw [cg.1.2.1, cg.1.2.2, frE_cg cg]
    by_cases g : 3 + n ≤ X 1 - frE X (X 3)
    · rw [itp_pos g, if_pos g]
      unfold lyZ
      have h2 := o4_lay (s := (ux (ux X 4 0) 8 0, false).1 3) (sB 16 0 n (0 : Int32).toInt64.toBitVec.toNat) (frE (ux (ux X 4 0) 8 0, false).1 ((ux (ux X 4 0) 8 0, false).1 3)) o0
      unfold tdI
      rw [if_neg (by rw [h2.1.1]; decide), h2.2, sB_len, e8, Nat.zero_add]
    · rw [itp_neg g, if_neg g]
      have g2 : 3 + n ≤ X 1 - szN X (X 3) 48 := c.resolve_left g
      rw [if_pos g2]
      have h1 := o4_hoZ (Z := (ux (ux X 4 0) 8 0, false)) hZB o0
      unfold lyZ
      have h2 := o4_lay (s := (hoZ (ux (ux X 4 0) 8 0, false)).1 3) (sB 16 0 n (0 : Int32).toInt64.toBitVec.toNat) (frE (hoZ (ux (ux X 4 0) 8 0, false)).1 ((hoZ (ux (ux X 4 0) 8 0, false)).1 3)) h1.1
      unfold tdI
      rw [if_neg (by rw [h2.1.1]; decide), h2.2, h1.2, sB_len, e8, Nat.zero_add, coD_cg cg]
  · rw [itp_neg c]
    rw [hf] at c
    rw [if_neg (fun g => c (Or.inl g)), if_neg (fun g => c (Or.inr g))]
theorem ct_eq (hI : IX N X) (x : Int32) : ctB X x = ctA X x := by
  unfold ctB ctA
  by_cases g : X 2 = 1 ∧ X 10 = 0 ∧ 1 ≤ tn x ∧ tn x ≤ 4
  · rw [itp_pos g, itp_pos g, wc_eq hI (by have := g.2.1; omega) g.2.2.2]
  · rw [itp_neg g, itp_neg g]
end OS
