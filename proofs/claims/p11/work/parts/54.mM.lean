/-! the reference: drop, begin, abort, off, power, rot, chip, on -/
def tn (x : Int32) : Nat := x.toBitVec.toNat
def inr (lo hi : Nat) (x : Int32) : Prop := lo ≤ tn x ∧ tn x ≤ hi
theorem tn_e (x : Int32) : x = nI (tn x) := nI_bv x
theorem tn_nI {a : Nat} (h : a < 2 ^ 31) : tn (nI a) = a := by
  show (BitVec.ofNat 32 a).toNat = a
  rw [BitVec.toNat_ofNat]; omega
def sct (X : Nat → Nat) (x : Int32) : Prop := tn x < X 0
/-- a tag that drop finds -/
def dpk (X : Nat → Nat) (t : Nat) : Prop := if X 10 = 1 ∧ icN X t (X 11) ≠ 0 then 0 < X (28 + (icN X t (X 11) - 1)) else hv X (X 3) t
def dpG (X : Nat → Nat) (x : Int32) : Prop := X 2 = 1 ∧ tn x ≤ 31 ∧ dpk X (tn x)
noncomputable def dpX (X : Nat → Nat) (x : Int32) : Nat → Nat := itp (dpG X x) (ssX X (tn x) 0 0) X
noncomputable def dpA (X : Nat → Nat) (x : Int32) : Int32 := itp (dpG X x) (ssA X (tn x) 0 0) (-1)
def bgX (X : Nat → Nat) : Nat → Nat := if X 2 = 1 ∧ X 10 ≠ 1 then ux (ux X 10 1) 11 0 else X
def bgA (X : Nat → Nat) : Int32 := if X 2 = 1 ∧ X 10 ≠ 1 then 1 else 0
def abX (X : Nat → Nat) : Nat → Nat := if X 10 = 0 then X else ux X 10 0
def abA (X : Nat → Nat) : Int32 := if X 10 = 0 then -1 else nI (X 11)
def ofX (X : Nat → Nat) : Nat → Nat := if X 2 = 1 then ux (ux X 2 0) 10 0 else X
def ofA (X : Nat → Nat) : Int32 := if X 2 = 1 then 1 else 0
def pwG (x1 x2 : Int32) : Prop := tn x1 ≤ 9999 ∧ tn x2 ≤ 255
noncomputable def pwX (X : Nat → Nat) (x1 x2 : Int32) : Nat → Nat := itp (pwG x1 x2) (ux (ux X 4 (tn x1)) 5 (tn x2)) X
noncomputable def pwA (x1 x2 : Int32) : Int32 := itp (pwG x1 x2) 1 0
def rtG (X : Nat → Nat) (x1 x2 x3 : Int32) : Prop := X 2 = 0 ∧ tn x1 < X 0 ∧ tn x2 < X 1 ∧ tn x3 ≤ 255
noncomputable def rtX (X : Nat → Nat) (x1 x2 x3 : Int32) : Nat → Nat := itp (rtG X x1 x2 x3) (ux X (42 + 128 * tn x1 + tn x2) (bt X (tn x1) (tn x2) &&& tn x3)) X
noncomputable def rtA (X : Nat → Nat) (x1 x2 x3 : Int32) : Int32 := itp (rtG X x1 x2 x3) (nI (bt X (tn x1) (tn x2) &&& tn x3)) (-1)
def chG (x1 x2 : Int32) : Prop := (2 ≤ tn x1 ∧ tn x1 ≤ 6) ∧ 32 ≤ tn x2 ∧ tn x2 ≤ 128
def nwX (s b : Nat) : Nat → Nat := fun q => if 42 ≤ q then 255 else if q = 1 then b else if q = 0 then s else 0
noncomputable def chX (X : Nat → Nat) (x1 x2 : Int32) : Nat → Nat := itp (chG x1 x2) (nwX (tn x1) (tn x2)) X
noncomputable def chA (x1 x2 : Int32) : Int32 := itp (chG x1 x2) 1 0
noncomputable def onZ (X : Nat → Nat) : Zt := swZ (ux X 8 0, false)
noncomputable def onXX (X : Nat → Nat) : Nat → Nat := if X 2 = 0 then (onZ X).1 else X
noncomputable def onA (X : Nat → Nat) : Int32 := if X 2 = 0 then (if (onZ X).2 = true then -3 else nI (vdN (onZ X).1 ((onZ X).1 3) 48)) else -1
section MM
variable {σ : Rg} {μ : Ar} {X : Nat → Nat} {N : Nat}
theorem sm_win {lo hi : Nat} (hh : hi < 2 ^ 31) (hlo : lo < 2 ^ 31) {x xl xh : Int32} (el : xl = nI lo) (eh : xh = nI hi) {Q : Int32 → Prop} (h1 : lo ≤ tn x → tn x ≤ hi → Q 1) (h0 : ¬ (lo ≤ tn x ∧ tn x ≤ hi) → Q 0) : wp_X6_within x xl xh Q := by
  rw [el, eh]
  refine sm_within (fun a b => ?_) (fun g => h0 (fun c => ?_))
  · have hx : ¬ x < 0 := fun g => a (Int32.lt_of_lt_of_le g (nI_pos' (by omega)))
    obtain ⟨t, ht, et⟩ := nI_of hx
    subst et
    rw [nI_ltI (by omega) (by omega)] at a b
    refine h1 ?_ ?_ <;> rw [tn_nI (by omega)] <;> omega
  · rw [tn_e x, nI_ltI (by omega) (by omega), nI_ltI (by omega) (by omega)] at g
    omega
theorem sm_isSector (hR : RM μ X) (hB : XB N X) {x : Int32} {Q : Int32 → Rg → Ar → Prop} (h1 : tn x < X 0 → Q 1 σ μ) (h0 : ¬ tn x < X 0 → Q 0 σ μ) : wp_X6_isSector σ μ x Q := by
  have b0 := hB.1
  have b6 := hB.2.1
  refine sm_win (lo := 0) (hi := X 0 - 1) (by omega) (by omega) rfl ?_ (fun _ b => ⟨bz1, h1 (by omega)⟩) (fun g => ⟨bz0, h0 (by omega)⟩)
  rw [hR 0 (by omega), show (1 : Int32) = nI 1 from rfl, pk_sub (by omega)]
theorem pos_ne {P : Prop} {a : Int32} (h : a = 1) (z : a = 0) : P := by rw [h] at z; exact absurd z (by decide)
theorem sm_sets0 (hR : RM μ X) (hI : IX N X) (hN : N < 2 ^ 28) {t : Nat} (ht : t ≤ 31) {Q : Int32 → Rg → Ar → Prop} (hQ : ∀ σ' μ', RM μ' (ssX X t 0 0) → FK σ μ σ' μ' → Q (ssA X t 0 0) σ' μ') : wp_X6_sets σ μ (nI t) 0 0 Q := sm_sets (n := 0) hR hI hN ht (by omega) hQ
theorem sm_drop (hR : RM μ X) (hI : IX N X) (hN : N < 2 ^ 28) {x : Int32} {Q : Int32 → Rg → Ar → Prop} (hQ : ∀ σ' μ', RM μ' (dpX X x) → σ' 0 = 0 → Q (dpA X x) σ' μ') : wp_X6_drop σ μ x Q := by
  intro σ2 e2
  have hB := hI.1
  have b6 := hB.2.1
  have h3 := hI.2.1
  have K2 := K0 e2
  have no : ¬ dpG X x → ∀ σ' μ', RM μ' X → σ' 0 = 0 → Q (-1) σ' μ' := fun g σ' μ' R' k' => by
    have := hQ σ' μ' (by unfold dpX; rw [itp_neg g]; exact R') k'
    unfold dpA at this; rw [itp_neg g] at this; exact this
  refine sm_isOn hR hB.2.2.2.2.1 (fun e => ⟨fun z => absurd z (by decide), fun _ => ?_⟩) (fun e => ⟨fun _ => no (fun c => absurd (c.1.symm.trans e) (by decide)) σ2 μ hR K2, fun z => absurd rfl z⟩)
  refine sm_win (lo := 0) (hi := 31) (by omega) (by omega) rfl rfl (fun _ b => ⟨fun _ => ?_, fun z => absurd z (by decide)⟩) (fun g => ⟨fun z => absurd rfl z, fun _ => no (fun c => g ⟨Nat.zero_le _, c.2.1⟩) σ2 μ hR K2⟩)
  rw [hR 3 (by omega)]
  refine sm_reads hR hB (by omega) (fun σ3 μ3 F3 G3 D3 => ?_)
  have R3 := F3.RM hR
  have k3 : σ3 0 = 0 := (G3 0 (by omega) (by omega) (by omega)).trans K2
  have c90y : dpk X (tn x) → wb_X6_drop_90 Q σ3 μ3 x 1 := fun c => by
    have g : dpG X x := ⟨e, b, c⟩
    refine ⟨fun z => absurd z (by decide), fun _ => ?_⟩
    rw [tn_e x]
    refine sm_sets0 R3 hI hN b (fun σ4 μ4 R4 K4 => ?_)
    have := hQ σ4 μ4 (by unfold dpX; rw [itp_pos g]; exact R4) (K4.1.trans k3)
    unfold dpA at this; rw [itp_pos g] at this; exact this
  have c90n : ¬ dpk X (tn x) → wb_X6_drop_90 Q σ3 μ3 x 0 := fun c => ⟨fun _ => no (fun d => c d.2.2) σ3 μ3 R3 k3, fun z => absurd rfl z⟩
  have c54v : ¬ (X 10 = 1 ∧ icN X (tn x) (X 11) ≠ 0) → wb_X6_drop_54 Q σ3 μ3 x (-1) := fun nc => by
    refine ⟨fun _ => ?_, fun z => absurd z (by decide)⟩
    rw [R3 3 (by omega)]
    have ed : dpk X (tn x) = hv X (X 3) (tn x) := by unfold dpk; rw [if_neg nc]
    rw [ed] at c90y c90n
    have := sm_hasValue (R3.rt (s := X 3) (by omega)) hB (by omega) (t := tn x) (by omega) D3 (Q := fun r87 σ87 μ87 => wb_X6_drop_90 Q σ87 μ87 x r87) c90y c90n
    rw [← tn_e x] at this
    exact this
  refine ⟨fun z => c54v (fun c => z (by rw [R3 10 (by omega), c.1]; rfl)), fun z => ?_⟩
  have e10 : X 10 = 1 := (nI_eq (b := 1) (by have := hB.2.2.2.2.2.2.2.1; omega) (by omega)).mp ((R3 10 (by omega)).symm.trans z)
  obtain ⟨c1, c2⟩ := hI.2.2 e10
  have := sm_inChange (σ := σ3) R3 c1 (fun k hk => (c2 k hk).1) b (Q := fun r47 σ47 μ47 => wb_X6_drop_54 Q σ47 μ47 x r47) ?_
  · rw [← tn_e x] at this; exact this
  · have hle := icN_le X (tn x) (X 11)
    by_cases h0 : icN X (tn x) (X 11) = 0
    · rw [h0]; exact c54v (fun c => c.2 h0)
    · rw [nwI_some h0]
      refine ⟨fun z => absurd z (nI_pos (by omega)), fun _ => ⟨pk_in _ 810 (by omega) (i_28 _), ?_⟩⟩
      rw [i_28, nI_clamp (by omega), R3 _ (by omega)]
      have h28 := (c2 (icN X (tn x) (X 11) - 1) (by omega)).2
      have ed : dpk X (tn x) = (0 < X (28 + (icN X (tn x) (X 11) - 1))) := by unfold dpk; rw [if_pos ⟨e10, h0⟩]
      exact pk_le (X (28 + (icN X (tn x) (X 11) - 1))) 0 (fun z => c90n (by rw [ed]; omega)) (fun z => c90y (by rw [ed]; omega)) rfl rfl
theorem sm_begin (hR : RM μ X) (hB : XB N X) {Q : Int32 → Rg → Ar → Prop} (hQ : ∀ σ' μ', RM μ' (bgX X) → σ' 0 = 0 → Q (bgA X) σ' μ') : wp_X6_begin σ μ Q := by
  intro σ2 e2
  have K2 := K0 e2
  unfold bgX bgA at hQ
  refine sm_isOn hR hB.2.2.2.2.1 (fun e => ⟨fun z => absurd z (by decide), fun _ => ?_⟩) (fun e => ⟨fun _ => ?_, fun z => absurd rfl z⟩)
  · rw [hR 10 (by omega)]
    refine (And.comm.mp (pk_eq (X 10) 1 (fun z => ?_) (fun z μ3 e3 μ4 e4 => ?_) rfl rfl (by have := hB.2.2.2.2.2.2.2.1; omega)))
    · rw [if_neg (by omega), if_neg (by omega)] at hQ
      exact hQ σ2 μ hR K2
    · rw [if_pos ⟨e, z⟩, if_pos ⟨e, z⟩] at hQ
      refine hQ σ2 μ4 ?_ K2
      rw [e4, e3]
      exact (hR.set rfl).set rfl
  · rw [if_neg (by omega), if_neg (by omega)] at hQ
    exact hQ σ2 μ hR K2
theorem sm_abort (hR : RM μ X) (hB : XB N X) {Q : Int32 → Rg → Ar → Prop} (hQ : ∀ σ' μ', RM μ' (abX X) → σ' 0 = 0 → Q (abA X) σ' μ') : wp_X6_abort σ μ Q := by
  intro σ2 e2
  have K2 := K0 e2
  unfold abX abA at hQ
  rw [hR 10 (by omega)]
  refine (And.comm.mp (pk_eq (X 10) 0 (fun z => ?_) (fun z μ3 e3 => ?_) rfl rfl (by have := hB.2.2.2.2.2.2.2.1; omega)))
  · rw [if_pos z, if_pos z] at hQ; exact hQ σ2 μ hR K2
  · rw [if_neg z, if_neg z] at hQ
    have R3 : RM μ3 (ux X 10 0) := by rw [e3]; exact hR.set rfl
    have e11 := R3 11 (by omega)
    rw [ux_n (by omega)] at e11
    rw [e11]
    exact hQ σ2 μ3 R3 K2
theorem sm_off (hR : RM μ X) (hB : XB N X) {Q : Int32 → Rg → Ar → Prop} (hQ : ∀ σ' μ', RM μ' (ofX X) → σ' 0 = 0 → Q (ofA X) σ' μ') : wp_X6_off σ μ Q := by
  intro σ2 e2
  have K2 := K0 e2
  unfold ofX ofA at hQ
  refine sm_isOn hR hB.2.2.2.2.1 (fun e => ⟨fun _ μ3 e3 μ4 e4 => ?_, fun z => absurd z (by decide)⟩) (fun e => ⟨fun z => absurd rfl z, fun _ => ?_⟩)
  · rw [if_pos e, if_pos e] at hQ
    refine hQ σ2 μ4 ?_ K2
    rw [e4, e3]
    exact (hR.set rfl).set rfl
  · rw [if_neg (by omega), if_neg (by omega)] at hQ
    exact hQ σ2 μ hR K2
theorem sm_power (hR : RM μ X) {x1 x2 : Int32} {Q : Int32 → Rg → Ar → Prop} (hQ : ∀ σ' μ', RM μ' (pwX X x1 x2) → σ' 0 = 0 → Q (pwA x1 x2) σ' μ') : wp_X6_power σ μ x1 x2 Q := by
  intro σ2 e2
  have K2 := K0 e2
  have no : ¬ pwG x1 x2 → Q 0 σ2 μ := fun g => by
    have := hQ σ2 μ (by unfold pwX; rw [itp_neg g]; exact hR) K2
    unfold pwA at this; rw [itp_neg g] at this; exact this
  refine sm_win (lo := 0) (hi := 9999) (by omega) (by omega) rfl rfl (fun _ a => ⟨fun z => absurd z (by decide), fun _ => ?_⟩) (fun g => ⟨fun _ => no (fun c => g ⟨Nat.zero_le _, c.1⟩), fun z => absurd rfl z⟩)
  refine sm_win (lo := 0) (hi := 255) (by omega) (by omega) rfl rfl (fun _ b => ⟨fun _ μ3 e3 μ4 e4 => ?_, fun z => absurd z (by decide)⟩) (fun g => ⟨fun z => absurd rfl z, fun _ => no (fun c => g ⟨Nat.zero_le _, c.2⟩)⟩)
  have g : pwG x1 x2 := ⟨a, b⟩
  have := hQ σ2 μ4 (by unfold pwX; rw [itp_pos g, e4, e3]; exact (hR.set (tn_e x1)).set (tn_e x2)) K2
  unfold pwA at this; rw [itp_pos g] at this; exact this
theorem sm_rot (hR : RM μ X) (hB : XB N X) {x1 x2 x3 : Int32} {Q : Int32 → Rg → Ar → Prop} (hQ : ∀ σ' μ', RM μ' (rtX X x1 x2 x3) → σ' 0 = 0 → Q (rtA X x1 x2 x3) σ' μ') : wp_X6_rot σ μ x1 x2 x3 Q := by
  intro σ2 e2
  have K2 := K0 e2
  have b0 := hB.1
  have b6 := hB.2.1
  have b1 := hB.2.2.1
  have b2 := hB.2.2.2.1
  have no : ¬ rtG X x1 x2 x3 → Q (-1) σ2 μ := fun g => by
    have := hQ σ2 μ (by unfold rtX; rw [itp_neg g]; exact hR) K2
    unfold rtA at this; rw [itp_neg g] at this; exact this
  refine sm_isOn hR hB.2.2.2.2.1 (fun e => ⟨fun _ => no (fun c => absurd (c.1.symm.trans e) (by decide)), fun z => absurd z (by decide)⟩) (fun e => ⟨fun z => absurd rfl z, fun _ => ?_⟩)
  refine sm_isSector hR hB (fun s1 => ⟨fun z => absurd z (by decide), fun _ => ?_⟩) (fun g => ⟨fun _ => no (fun c => g c.2.1), fun z => absurd rfl z⟩)
  refine sm_win (lo := 0) (hi := X 1 - 1) (by omega) (by omega) rfl (by rw [hR 1 (by omega), show (1 : Int32) = nI 1 from rfl, pk_sub (by omega)]) (fun _ s2 => ⟨fun z => absurd z (by decide), fun _ => ?_⟩) (fun g => ⟨fun _ => no (fun c => g ⟨Nat.zero_le _, by have := c.2.2.1; omega⟩), fun z => absurd rfl z⟩)
  refine sm_win (lo := 0) (hi := 255) (by omega) (by omega) rfl rfl (fun _ s3 => ⟨fun _ => ?_, fun z => absurd z (by decide)⟩) (fun g => ⟨fun z => absurd rfl z, fun _ => no (fun c => g ⟨Nat.zero_le _, c.2.2.2⟩)⟩)
  have ea : ((42 : Int32) + ((128 : Int32) * x1)) + x2 = nI (42 + 128 * tn x1 + tn x2) := by rw [tn_e x1, tn_e x2, adr, ← tn_e x1, ← tn_e x2]
  have g : rtG X x1 x2 x3 := ⟨e, s1, by omega, s3⟩
  refine ⟨pk_in _ 810 (by omega) ea, pk_in _ 810 (by omega) ea, fun μ3 e3 => ?_⟩
  rw [ea, nI_clamp (by omega)] at e3
  have R3 : RM μ3 (rtX X x1 x2 x3) := by
    unfold rtX; rw [itp_pos g, e3]
    refine hR.set ?_
    rw [hR _ (by omega), tn_e x3, i_and, ← tn_e x3]; rfl
  have hb : bt (rtX X x1 x2 x3) (tn x1) (tn x2) = bt X (tn x1) (tn x2) &&& tn x3 := by
    unfold rtX; rw [itp_pos g]; exact ux_s
  rw [tn_e x1, tn_e x2]
  refine sm_byteAt R3 (by omega) (by omega) ?_
  rw [hb]
  have := hQ σ2 μ3 R3 K2
  unfold rtA at this; rw [itp_pos g] at this; exact this
end MM
