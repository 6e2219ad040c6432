/-! the reference: what is asked -/
noncomputable def vnA (X : Nat → Nat) (t : Nat) : Int64 := if nwt X (X 3) t = 0 then -4 else vlL X (X 3) (nwt X (X 3) t - 1)
noncomputable def gtA (X : Nat → Nat) (x : Int32) : Int64 := itp (X 2 = 1 ∧ tn x ≤ 47) (vnA X (tn x)) (-1)
noncomputable def leA (X : Nat → Nat) (x : Int32) : Int32 := itp (X 2 = 1 ∧ tn x ≤ 47) (if nwt X (X 3) (tn x) = 0 then 0 else nI (ln X (X 3) (nwt X (X 3) (tn x) - 1))) (-1)
def atG (X : Nat → Nat) (x1 x2 : Int32) : Prop := tn x1 < X 0 ∧ tn x2 < X 1
noncomputable def scA (X : Nat → Nat) (x1 x2 : Int32) : Int32 := itp (tn x1 < X 0) (if x2 = 0 then nI (bt X (tn x1) 0) else if x2 = 1 then nI (nb X (tn x1)) else if x2 = 2 then nI (X (36 + tn x1)) else if x2 = 3 then itp (blnk X (tn x1) 0) 1 0 else if x2 = 4 then (if X 2 = 1 ∧ X 3 = tn x1 then 1 else 0) else -1) (-1)
noncomputable def unA (X : Nat → Nat) (x : Int32) : Int32 := itp (X 2 = 1 ∧ 1 ≤ tn x ∧ tn x ≤ 4) (nI ((X 1 - frE X (X 3)) / (3 + tn x))) (-1)
noncomputable def afA (X : Nat → Nat) : Int32 := if X 2 = 1 then nI (X 1 - szN X (X 3) 48) else -1
def coA (X : Nat → Nat) (x : Int32) : Int32 := if x = 0 then nI (X 0) else if x = 1 then nI (X 1) else if x = 2 then nI (X 2) else if x = 3 then (if X 2 = 1 then nI (X 3) else -1) else if x = 4 then (if X 10 = 1 then nI (X 11) else -1) else if x = 5 then nI (X 4) else if x = 6 then nI (X 6) else if x = 7 then nI (X 7) else -1
section MR
variable {σ : Rg} {μ : Ar} {X : Nat → Nat} {N : Nat}
theorem sm_isTag {x : Int32} {Q : Int32 → Rg → Ar → Prop} (h1 : tn x ≤ 47 → Q 1 σ μ) (h0 : ¬ tn x ≤ 47 → Q 0 σ μ) : wp_X6_isTag σ μ x Q := sm_win (lo := 0) (hi := 47) (by omega) (by omega) rfl rfl (fun _ b => ⟨bz1, h1 b⟩) (fun g => ⟨bz0, h0 (fun c => g ⟨Nat.zero_le _, c⟩)⟩)
theorem sm_valueNow (hR : RM μ X) (hB : XB N X) (h3 : X 3 < X 0) {t : Nat} (ht : t ≤ 47) {Q : Int64 → Rg → Ar → Prop} (hQ : ∀ σ' μ', F01 μ μ' → G3 σ σ' → Q (vnA X t) σ' μ') {x : Int32} (hx : x = nI t) : wp_X6_valueNow σ μ x Q := by
  subst hx
  have b6 := hB.2.1
  have hnE := nE_le (X := X) (s := X 3) hB.2.2.2.1
  unfold wp_X6_valueNow
  rw [hR 3 (by omega)]
  refine sm_reads hR hB (by omega) (fun σ3 μ3 F3 G3' D3 => ⟨pk_in t 48 (by omega) rfl, ?_⟩)
  have R3 := F3.RM hR
  have hq := hQ σ3 μ3 F3 G3'
  unfold vnA at hq
  rw [nI_clamp (by omega), D3.2.2.2.1 t (by omega)]
  by_cases h0 : nwt X (X 3) t = 0
  · rw [h0]; rw [if_pos h0] at hq
    exact ⟨fun z => absurd z (by decide), fun _ => hq⟩
  · rw [if_neg h0] at hq
    obtain ⟨hi, hk3, _, _⟩ := nwt_i hB h0
    rw [nwI_some h0]
    refine ⟨fun _ => ⟨pk_in t 48 (by omega) rfl, ?_⟩, fun z => absurd (nI_pos' (by omega)) z⟩
    rw [R3 3 (by omega)]
    exact sm_valueOf (R3.rt (s := X 3) (by omega)) hB (by omega) D3.1 hi hk3 hq
theorem sm_get (hR : RM μ X) (hI : IX N X) {x : Int32} {Q : Int64 → Rg → Ar → Prop} (hQ : ∀ σ' μ', RM μ' X → σ' 0 = 0 → Q (gtA X x) σ' μ') : wp_X6_get σ μ x Q := by
  intro σ2 e2
  have K2 := K0 e2
  have hB := hI.1
  unfold gtA at hQ
  refine sm_isOn hR hB.2.2.2.2.1 (fun e => ⟨fun z => absurd z (by decide), fun _ => ?_⟩) (fun e => ⟨fun _ => ?_, fun z => absurd rfl z⟩)
  · refine sm_isTag (fun a => ⟨fun z => absurd z (by decide), fun _ => ?_⟩) (fun a => ⟨fun _ => ?_, fun z => absurd rfl z⟩)
    · rw [itp_pos ⟨e, a⟩] at hQ
      refine sm_valueNow hR hB hI.2.1 a (fun σ3 μ3 F3 G3' => ?_) (tn_e x)
      exact hQ σ3 μ3 (F3.RM hR) ((G3' 0 (by omega) (by omega) (by omega)).trans K2)
    · rw [itp_neg (fun c => a c.2)] at hQ; exact hQ σ2 μ hR K2
  · rw [itp_neg (fun c => absurd (c.1.symm.trans e) (by decide))] at hQ; exact hQ σ2 μ hR K2
theorem sm_length (hR : RM μ X) (hI : IX N X) {x : Int32} {Q : Int32 → Rg → Ar → Prop} (hQ : ∀ σ' μ', RM μ' X → σ' 0 = 0 → Q (leA X x) σ' μ') : wp_X6_length σ μ x Q := by
  intro σ2 e2
  have K2 := K0 e2
  have hB := hI.1
  have b6 := hB.2.1
  have h3 := hI.2.1
  have hnE := nE_le (X := X) (s := X 3) hB.2.2.2.1
  unfold leA at hQ
  refine sm_isOn hR hB.2.2.2.2.1 (fun e => ⟨fun z => absurd z (by decide), fun _ => ?_⟩) (fun e => ⟨fun _ => ?_, fun z => absurd rfl z⟩)
  · refine sm_isTag (fun a => ⟨fun _ => ?_, fun z => absurd z (by decide)⟩) (fun a => ⟨fun z => absurd rfl z, fun _ => ?_⟩)
    · rw [itp_pos ⟨e, a⟩] at hQ
      rw [hR 3 (by omega)]
      refine sm_reads hR hB (by omega) (fun σ3 μ3 F3 G3' D3 => ⟨pk_in (tn x) 48 (by omega) (tn_e x), ?_⟩)
      have R3 := F3.RM hR
      have hq := hQ σ3 μ3 R3 ((G3' 0 (by omega) (by omega) (by omega)).trans K2)
      have ec : (x).toNatClampNeg = tn x := by rw [tn_e x, nI_clamp (by omega), ← tn_e x]
      rw [ec, D3.2.2.2.1 (tn x) (by omega)]
      by_cases h0 : nwt X (X 3) (tn x) = 0
      · rw [h0]; rw [if_pos h0] at hq
        exact ⟨fun z => absurd z (by decide), fun _ => hq⟩
      · rw [if_neg h0] at hq
        obtain ⟨hi, hk3, _, _⟩ := nwt_i hB h0
        rw [nwI_some h0]
        refine ⟨fun _ => ⟨pk_in (tn x) 48 (by omega) (tn_e x), ?_⟩, fun z => absurd (nI_pos' (by omega)) z⟩
        rw [R3 3 (by omega)]
        exact sm_lengthOf (R3.rt (s := X 3) (by omega)) hB (by omega) D3.1 hi hq
    · rw [itp_neg (fun c => a c.2)] at hQ; exact hQ σ2 μ hR K2
  · rw [itp_neg (fun c => absurd (c.1.symm.trans e) (by decide))] at hQ; exact hQ σ2 μ hR K2
theorem sm_at (hR : RM μ X) (hB : XB N X) {x1 x2 : Int32} {Q : Int32 → Rg → Ar → Prop} (h1 : atG X x1 x2 → ∀ σ', σ' 0 = 0 → Q (nI (bt X (tn x1) (tn x2))) σ' μ) (h0 : ¬ atG X x1 x2 → ∀ σ', σ' 0 = 1 → Q 0 σ' μ) : wp_X6_at σ μ x1 x2 Q := by
  have b0 := hB.1
  have b6 := hB.2.1
  have b1 := hB.2.2.1
  have b2 := hB.2.2.2.1
  have no : ¬ atG X x1 x2 → wb_X6_at_29 Q σ μ x1 x2 := fun g σ3 e3 => by
    have k3 : σ3 0 = 1 := by rw [e3, up_s]
    exact ⟨fun _ => h0 g σ3 k3, fun z => absurd (k3.symm.trans z) (by decide)⟩
  refine sm_isSector hR hB (fun s1 => ⟨fun z => absurd z (by decide), fun _ => ?_⟩) (fun g => ⟨fun _ => no (fun c => g c.1), fun z => absurd rfl z⟩)
  refine sm_win (lo := 0) (hi := X 1 - 1) (by omega) (by omega) rfl (by rw [hR 1 (by omega), show (1 : Int32) = nI 1 from rfl, pk_sub (by omega)]) (fun _ s2 => ⟨fun z => absurd z (by decide), fun _ => ?_⟩) (fun g => ⟨fun _ => no (fun c => g ⟨Nat.zero_le _, by have := c.2; omega⟩), fun z => absurd rfl z⟩)
  intro σ3 e3
  have k3 : σ3 0 = 0 := by rw [e3, up_s]
  refine ⟨fun z => absurd k3 z, fun _ => ?_⟩
  rw [tn_e x1, tn_e x2]
  exact sm_byteAt hR (by omega) (by omega) (h1 ⟨s1, by omega⟩ σ3 k3)
theorem sm_sector (hR : RM μ X) (hI : IX N X) {x1 x2 : Int32} {Q : Int32 → Rg → Ar → Prop} (hQ : ∀ σ' μ', RM μ' X → σ' 0 = 0 → Q (scA X x1 x2) σ' μ') : wp_X6_sector σ μ x1 x2 Q := by
  intro σ2 e2
  have K2 := K0 e2
  have hB := hI.1
  have h3 := hI.2.1
  have b0 := hB.1
  have b6 := hB.2.1
  unfold scA at hQ
  refine sm_isSector hR hB (fun s1 => ⟨fun _ => ?_, fun z => absurd z (by decide)⟩) (fun g => ⟨fun z => absurd rfl z, fun _ => ?_⟩)
  · rw [itp_pos s1] at hQ
    have hq := hQ σ2 μ hR K2
    refine ⟨fun z => ?_, fun z => ?_, fun z => ?_, fun z => ?_, fun z => ?_, fun z => ?_⟩
    · rw [if_neg (fun c => by subst c; revert z; decide), if_neg (fun c => by subst c; revert z; decide), if_neg (fun c => by subst c; revert z; decide), if_neg (fun c => by subst c; revert z; decide), if_neg (fun c => by subst c; revert z; decide)] at hq
      exact hq
    · subst z
      rw [tn_e x1]
      exact sm_byteAt (p := 0) hR (by omega) (by omega) hq
    · subst z
      rw [tn_e x1]
      exact sm_numberOf hR (by omega) hq
    · subst z
      have ea : (36 : Int32) + x1 = nI (36 + tn x1) := by rw [tn_e x1, i_36, ← tn_e x1]
      refine ⟨pk_in _ 810 (by omega) ea, ?_⟩
      rw [ea, nI_clamp (by omega), hR _ (by omega)]; exact hq
    · subst z
      rw [tn_e x1]
      refine sm_isBlank (p := 0) hR hB (by omega) (by omega) (fun g => ⟨fun z => absurd z (by decide), fun _ => ?_⟩) (fun g => ⟨fun _ => ?_, fun z => absurd rfl z⟩)
      · rw [show (if (3 : Int32) = 0 then nI (bt X (tn x1) 0) else if (3 : Int32) = 1 then nI (nb X (tn x1)) else if (3 : Int32) = 2 then nI (X (36 + tn x1)) else if (3 : Int32) = 3 then itp (blnk X (tn x1) 0) 1 0 else if (3 : Int32) = 4 then (if X 2 = 1 ∧ X 3 = tn x1 then 1 else 0) else -1) = itp (blnk X (tn x1) 0) 1 0 from rfl, itp_pos g] at hq
        exact hq
      · rw [show (if (3 : Int32) = 0 then nI (bt X (tn x1) 0) else if (3 : Int32) = 1 then nI (nb X (tn x1)) else if (3 : Int32) = 2 then nI (X (36 + tn x1)) else if (3 : Int32) = 3 then itp (blnk X (tn x1) 0) 1 0 else if (3 : Int32) = 4 then (if X 2 = 1 ∧ X 3 = tn x1 then 1 else 0) else -1) = itp (blnk X (tn x1) 0) 1 0 from rfl, itp_neg g] at hq
        exact hq
    · subst z
      rw [show (if (4 : Int32) = 0 then nI (bt X (tn x1) 0) else if (4 : Int32) = 1 then nI (nb X (tn x1)) else if (4 : Int32) = 2 then nI (X (36 + tn x1)) else if (4 : Int32) = 3 then itp (blnk X (tn x1) 0) 1 0 else if (4 : Int32) = 4 then (if X 2 = 1 ∧ X 3 = tn x1 then 1 else 0) else -1) = (if X 2 = 1 ∧ X 3 = tn x1 then 1 else 0) from rfl] at hq
      refine sm_isOn hR hB.2.2.2.2.1 (fun e => ⟨fun z => absurd z (by decide), fun _ => ?_⟩) (fun e => ⟨fun _ => ?_, fun z => absurd rfl z⟩)
      · rw [hR 3 (by omega)]
        by_cases g : X 3 = tn x1
        · rw [if_pos ⟨e, g⟩] at hq
          exact ⟨fun z => absurd (by rw [g, ← tn_e x1]) z, fun _ => hq⟩
        · rw [if_neg (fun c => g c.2)] at hq
          refine ⟨fun _ => hq, fun z => absurd ?_ g⟩
          rw [← z]
          exact (tn_nI (by omega)).symm
      · rw [if_neg (by omega)] at hq; exact hq
  · rw [itp_neg g] at hQ; exact hQ σ2 μ hR K2
theorem sq_freeNow (hR : RM μ X) (hB : XB N X) (h3 : X 3 < X 0) {Q : Int32 → Rg → Ar → Prop} (hQ : ∀ σ' μ', F01 μ μ' → G3 σ σ' → Q (nI (X 1 - frE X (X 3))) σ' μ') : wp_X6_freeNow σ μ Q := by
  have b6 := hB.2.1
  unfold wp_X6_freeNow
  rw [hR 3 (by omega)]
  refine sm_reads hR hB (by omega) (fun σ1 μ1 F1 G1 D1 => ?_)
  rw [F1.RM hR 1 (by omega), D1.2.1, pk_sub (frE_le hB _)]
  exact hQ σ1 μ1 F1 G1
theorem sq_freeThen (hR : RM μ X) (hB : XB N X) (h3 : X 3 < X 0) {Q : Int32 → Rg → Ar → Prop} (hQ : ∀ σ' μ', F01 μ μ' → G3 σ σ' → Q (nI (X 1 - szN X (X 3) 48)) σ' μ') : wp_X6_freeThen σ μ Q := by
  have b6 := hB.2.1
  unfold wp_X6_freeThen
  rw [hR 3 (by omega)]
  refine sm_reads hR hB (by omega) (fun σ1 μ1 F1 G1 D1 => ?_)
  have R1 := F1.RM hR
  rw [R1 3 (by omega)]
  refine sm_sizeNext (R1.rt (by omega)) hB (by omega) D1 ?_
  rw [R1 1 (by omega), pk_sub (szN_le hB _ _)]
  exact hQ σ1 μ1 F1 G1
theorem sm_after (hR : RM μ X) (hI : IX N X) {Q : Int32 → Rg → Ar → Prop} (hQ : ∀ σ' μ', RM μ' X → σ' 0 = 0 → Q (afA X) σ' μ') : wp_X6_after σ μ Q := by
  intro σ2 e2
  have K2 := K0 e2
  have hB := hI.1
  unfold afA at hQ
  refine sm_isOn hR hB.2.2.2.2.1 (fun e => ⟨fun z => absurd z (by decide), fun _ => ?_⟩) (fun e => ⟨fun _ => ?_, fun z => absurd rfl z⟩)
  · rw [if_pos e] at hQ
    exact sq_freeThen hR hB hI.2.1 (fun σ3 μ3 F3 G3' => hQ σ3 μ3 (F3.RM hR) ((G3' 0 (by omega) (by omega) (by omega)).trans K2))
  · rw [if_neg (by omega)] at hQ; exact hQ σ2 μ hR K2
theorem sm_until (hR : RM μ X) (hI : IX N X) {x : Int32} {Q : Int32 → Rg → Ar → Prop} (hQ : ∀ σ' μ', RM μ' X → σ' 0 = 0 → Q (unA X x) σ' μ') : wp_X6_until σ μ x Q := by
  intro σ2 e2
  have K2 := K0 e2
  have hB := hI.1
  have b1 := hB.2.2.2.1
  unfold unA at hQ
  refine sm_isOn hR hB.2.2.2.2.1 (fun e => ⟨fun z => absurd z (by decide), fun _ => ?_⟩) (fun e => ⟨fun _ => ?_, fun z => absurd rfl z⟩)
  · refine sm_win (lo := 1) (hi := 4) (by omega) (by omega) rfl rfl (fun a b => ⟨fun z => absurd z (by decide), fun _ => ?_⟩) (fun g => ⟨fun _ => ?_, fun z => absurd rfl z⟩)
    · rw [itp_pos ⟨e, a, b⟩] at hQ
      have ed : (3 : Int32) + x = nI (3 + tn x) := by rw [tn_e x, show (3 : Int32) = nI 3 from rfl, nI_add, ← tn_e x]
      refine sq_freeNow hR hB hI.2.1 (fun σ3 μ3 F3 G3' => ⟨?_, ?_⟩)
      · rw [ed]
        intro z
        have := (nI_eq (a := 3 + tn x) (b := 0) (by omega) (by omega)).mp z
        omega
      · rw [ed]
        have := hQ σ3 μ3 (F3.RM hR) ((G3' 0 (by omega) (by omega) (by omega)).trans K2)
        show Q (nI (X 1 - frE X (X 3)) / nI (3 + tn x)) σ3 μ3
        rw [pk_div (by omega) (by omega) (by omega)]; exact this
    · rw [itp_neg (fun c => g c.2)] at hQ; exact hQ σ2 μ hR K2
  · rw [itp_neg (fun c => absurd (c.1.symm.trans e) (by decide))] at hQ; exact hQ σ2 μ hR K2
theorem sm_count (hR : RM μ X) (hB : XB N X) {x : Int32} {Q : Int32 → Rg → Ar → Prop} (hQ : ∀ σ' μ', RM μ' X → σ' 0 = 0 → Q (coA X x) σ' μ') : wp_X6_count σ μ x Q := by
  intro σ2 e2
  have hq := hQ σ2 μ hR (K0 e2)
  unfold coA at hq
  refine ⟨fun z => ?_, fun z => ?_, fun z => ?_, fun z => ?_, fun z => ?_, fun z => ?_, fun z => ?_, fun z => ?_, fun z => ?_⟩
  · rw [if_neg (fun c => by subst c; revert z; decide), if_neg (fun c => by subst c; revert z; decide), if_neg (fun c => by subst c; revert z; decide), if_neg (fun c => by subst c; revert z; decide), if_neg (fun c => by subst c; revert z; decide), if_neg (fun c => by subst c; revert z; decide), if_neg (fun c => by subst c; revert z; decide), if_neg (fun c => by subst c; revert z; decide)] at hq
    exact hq
  · subst z; rw [hR 0 (by omega)]; exact hq
  · subst z; rw [hR 1 (by omega)]; exact hq
  · subst z; rw [hR 2 (by omega)]; exact hq
  · subst z
    rw [if_neg (by decide), if_neg (by decide), if_neg (by decide), if_pos rfl] at hq
    refine sm_isOn hR hB.2.2.2.2.1 (fun e => ⟨fun z => absurd z (by decide), fun _ => ?_⟩) (fun e => ⟨fun _ => ?_, fun z => absurd rfl z⟩)
    · rw [if_pos e] at hq; rw [hR 3 (by omega)]; exact hq
    · rw [if_neg (by omega)] at hq; exact hq
  · subst z
    rw [if_neg (by decide), if_neg (by decide), if_neg (by decide), if_neg (by decide), if_pos rfl] at hq
    rw [hR 10 (by omega)]
    refine And.comm.mp (pk_eq (X 10) 1 (fun z => ?_) (fun z => ?_) rfl rfl (by have := hB.2.2.2.2.2.2.2.1; omega))
    · rw [if_pos z] at hq; rw [hR 11 (by omega)]; exact hq
    · rw [if_neg z] at hq; exact hq
  · subst z; rw [hR 4 (by omega)]; exact hq
  · subst z; rw [hR 6 (by omega)]; exact hq
  · subst z; rw [hR 7 (by omega)]; exact hq
end MR
