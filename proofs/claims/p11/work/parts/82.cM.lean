/-! theirs: its face, what is asked -/
noncomputable def spB (X : Nat → Nat) (x1 x2 : Int32) : Int32 := itp (tn x1 < X 0) (if x2 = 0 then nI (frE X (tn x1)) else if x2 = 1 then nI (loE X (tn x1)) else if x2 = 2 then nI (szN X (tn x1) 48 - 4) else if x2 = 3 then nI (alN X (tn x1) (nE X (tn x1))) - nI (szN X (tn x1) 48 - 4) else -1) (-1)
noncomputable def ctN (X : Nat → Nat) (s t : Nat) : Nat → Nat
  | 0 => 0
  | j + 1 => ctN X s t j + itp (isof X s j t) 1 0
noncomputable def hsB (X : Nat → Nat) (x1 x2 : Int32) : Int64 := itp (X 2 = 1 ∧ tn x1 ≤ 47 ∧ -1 ≤ x2) (if x2 = -1 then (nI (ctN X (X 3) (tn x1) (nE X (X 3)))).toInt64 else hsF X (X 3) (tn x1) x2 (nE X (X 3)) 0) (-1)
section CM
variable {σ : Rg} {μ : Ar} {σb : Rg} {μb : Ar} {X : Nat → Nat} {N k : Nat}
theorem sc_isTag {x : Int32} {Q : Int32 → Prop} (h1 : tn x ≤ 47 → Q 1) (h0 : ¬ tn x ≤ 47 → Q 0) : wp_X5_isTag x Q := by
  refine ⟨fun z => ⟨bz0, h0 (by have := tn_neg z; omega)⟩, fun z => ?_⟩
  have := tn_pos z
  exact pk_le 48 (tn x) (fun g => ⟨bz0, h0 (by omega)⟩) (fun g => ⟨bz1, h1 (by omega)⟩) rfl (tn_e x)
theorem sc_look (hC : RCn σ μ X) (hI : IX N X) (h2 : X 2 = 1) {Q : Rg → Ar → Prop} (hQ : ∀ σ' μ', RCn σ' μ' X → RDc X (X 3) σ' μ' → σ' 6 = σ 6 → Q σ' μ') : wp_X4_look σ μ Q :=
  sc_scan hC.1.1 hC.1.2 hI.1 hI.2.1 (fun σ1 μ1 f1 g1 D1 => hQ σ1 μ1 (hC.fc f1 g1) D1 (f1 6 (by omega) (by omega) (by omega) (by omega))) (hC.2.2.1 h2).1
theorem cf_get (hC : RCn σ μ X) (hI : IX N X) {x : Int32} {Q : Int64 → Rg → Ar → Rg → Ar → Prop} (hQ : ∀ σ' μ', RCn σ' μ' X → Q (gtA X x) σ' μ' σb μb) : wp_X5_get σ μ σb μb x Q := by
  have hB := hI.1
  have b6 := hB.2.1
  have h3 := hI.2.1
  unfold gtA at hQ
  refine sc_isOn hC hI (fun e => ⟨fun z => absurd z (by decide), fun _ => ?_⟩) (fun e => ⟨fun _ => ?_, fun z => absurd rfl z⟩)
  · refine sc_isTag (fun a => ⟨fun _ => ?_, fun z => absurd z (by decide)⟩) (fun a => ⟨fun z => absurd rfl z, fun _ => ?_⟩)
    · rw [itp_pos ⟨e, a⟩] at hQ
      exact sc_look hC hI e (fun σ1 μ1 C1 D1 _ => sc_newestValue hB (by omega) D1 (by omega) (hQ σ1 μ1 C1) (tn_e x))
    · rw [itp_neg (fun c => a c.2)] at hQ; exact hQ σ μ hC
  · rw [itp_neg (fun c => absurd (c.1.symm.trans e) (by decide))] at hQ; exact hQ σ μ hC
theorem cf_length (hC : RCn σ μ X) (hI : IX N X) {x : Int32} {Q : Int32 → Rg → Ar → Rg → Ar → Prop} (hQ : ∀ σ' μ', RCn σ' μ' X → Q (leA X x) σ' μ' σb μb) : wp_X5_length σ μ σb μb x Q := by
  have hB := hI.1
  unfold leA at hQ
  refine sc_isOn hC hI (fun e => ⟨fun z => absurd z (by decide), fun _ => ?_⟩) (fun e => ⟨fun _ => ?_, fun z => absurd rfl z⟩)
  · refine sc_isTag (fun a => ⟨fun _ => ?_, fun z => absurd z (by decide)⟩) (fun a => ⟨fun z => absurd rfl z, fun _ => ?_⟩)
    · rw [itp_pos ⟨e, a⟩] at hQ
      exact sc_look hC hI e (fun σ1 μ1 C1 D1 _ => sc_newestLength hB D1 (by omega) (hQ σ1 μ1 C1) (tn_e x))
    · rw [itp_neg (fun c => a c.2)] at hQ; exact hQ σ μ hC
  · rw [itp_neg (fun c => absurd (c.1.symm.trans e) (by decide))] at hQ; exact hQ σ μ hC
theorem cf_at (hC : RCn σ μ X) (hI : IX N X) {x1 x2 : Int32} {Q : Int32 → Rg → Ar → Rg → Ar → Prop} {QX : Rg → Ar → Rg → Ar → Prop} (h1 : atG X x1 x2 → Q (nI (bt X (tn x1) (tn x2))) σ μ σb μb) (h0 : ¬ atG X x1 x2 → QX σ μ σb μb) : wp_X5_at σ μ σb μb x1 x2 Q QX := by
  have b6 := hI.1.2.1
  have b1 := hI.1.2.2.2.1
  refine sc_holds hC.1.1.1 hC.1.1.2.1 b6 b1 (fun s1 s2 => ⟨fun _ => ?_, fun z => absurd z (by decide)⟩) (fun g => ⟨fun z => absurd rfl z, fun _ => h0 g⟩)
  exact sc_peek hC.1.1 hC.1.2 b6 b1 s1 s2 (h1 ⟨s1, s2⟩) (tn_e x1) (tn_e x2)
theorem cf_sector (hC : RCn σ μ X) (hI : IX N X) {x1 x2 : Int32} {Q : Int32 → Rg → Ar → Rg → Ar → Prop} (hQ : ∀ σ' μ', RCn σ' μ' X → Q (scA X x1 x2) σ' μ' σb μb) : wp_X5_sector σ μ σb μb x1 x2 Q := by
  have hB := hI.1
  have b6 := hB.2.1
  have b1 := hB.2.2.2.1
  have b32 := hB.2.2.1
  have h3 := hI.2.1
  have b2 := hB.2.2.2.2.1
  unfold scA at hQ
  refine sc_hasSector hC.1.1.1 b6 (fun s1 => ⟨fun _ => ?_, fun z => absurd z (by decide)⟩) (fun g => ⟨fun z => absurd rfl z, fun _ => ?_⟩)
  · rw [itp_pos s1] at hQ
    have hq := hQ σ μ hC
    refine ⟨fun z => ?_, fun z => ?_, fun z => ?_, fun z => ?_, fun z => ?_, fun z => ?_⟩
    · rw [if_neg (fun c => by subst c; revert z; decide), if_neg (fun c => by subst c; revert z; decide), if_neg (fun c => by subst c; revert z; decide), if_neg (fun c => by subst c; revert z; decide), if_neg (fun c => by subst c; revert z; decide)] at hq
      exact hq
    · subst z
      exact sc_peek hC.1.1 hC.1.2 b6 b1 s1 (p := 0) (by omega) hq (tn_e x1) rfl
    · subst z
      exact sc_numberOf hC.1.1 hC.1.2 hB s1 hq (tn_e x1)
    · subst z
      exact sc_erasesOf hC.1.1 hC.1.2 hB s1 hq (tn_e x1)
    · subst z
      rw [if_neg (by decide), if_neg (by decide), if_neg (by decide), if_pos rfl] at hq
      refine sc_isBlank hC.1.1 hC.1.2 hB s1 (fun g => ⟨fun z => absurd z (by decide), fun _ => ?_⟩) (fun g => ⟨fun _ => ?_, fun z => absurd rfl z⟩) (tn_e x1)
      · rw [itp_pos g] at hq; exact hq
      · rw [itp_neg g] at hq; exact hq
    · subst z
      rw [if_neg (by decide), if_neg (by decide), if_neg (by decide), if_neg (by decide), if_pos rfl] at hq
      by_cases e : X 2 = 1
      · have h0 := (hC.2.2.1 e).1
        by_cases g : X 3 = tn x1
        · rw [if_pos ⟨e, g⟩] at hq
          exact ⟨fun z => absurd (by rw [h0, g, ← tn_e x1]) z, fun _ => hq⟩
        · rw [if_neg (fun c => g c.2)] at hq
          refine ⟨fun _ => hq, fun z => absurd ?_ g⟩
          rw [← z, h0]
          exact (tn_nI (by omega)).symm
      · have h0 := (hC.2.2.2.1 (by omega)).1
        rw [if_neg (fun c => e c.1)] at hq
        refine ⟨fun _ => hq, fun z => ?_⟩
        rw [h0] at z
        have : tn x1 = 4294967295 := by rw [← z]; decide
        omega
  · rw [itp_neg g] at hQ; exact hQ σ μ hC
theorem cf_until (hC : RCn σ μ X) (hI : IX N X) {x : Int32} {Q : Int32 → Rg → Ar → Rg → Ar → Prop} (hQ : ∀ σ' μ', RCn σ' μ' X → Q (unA X x) σ' μ' σb μb) : wp_X5_until σ μ σb μb x Q := by
  have hB := hI.1
  have b1 := hB.2.2.2.1
  unfold unA at hQ
  refine sc_isOn hC hI (fun e => ⟨fun z => absurd z (by decide), fun _ => ?_⟩) (fun e => ⟨fun _ => ?_, fun z => absurd rfl z⟩)
  · refine sc_win (lo := 1) (hi := 4) (by omega) (by omega) rfl rfl (fun a b => ⟨fun _ => ?_, fun z => absurd z (by decide)⟩) (fun g => ⟨fun z => absurd rfl z, fun _ => ?_⟩)
    · rw [itp_pos ⟨e, a, b⟩] at hQ
      have ed : (3 : Int32) + x = nI (3 + tn x) := by
        have := nI_add 3 (tn x)
        rw [← tn_e x] at this; exact this
      refine sc_look hC hI e (fun σ1 μ1 C1 D1 _ => ?_)
      show (¬ (3 + x) = 0) ∧ Q ((σ1 11 - σ1 13) / (3 + x)) σ1 μ1 σb μb
      rw [ed, D1.1.1, D1.2.2.1, pk_sub (frE_le hB _), pk_div (by omega) (by omega) (by omega)]
      refine ⟨fun z => ?_, hQ σ1 μ1 C1⟩
      have := (nI_eq (a := 3 + tn x) (b := 0) (by omega) (by omega)).mp z
      omega
    · rw [itp_neg (fun c => g c.2)] at hQ; exact hQ σ μ hC
  · rw [itp_neg (fun c => absurd (c.1.symm.trans e) (by decide))] at hQ; exact hQ σ μ hC
theorem cf_after (hC : RCn σ μ X) (hI : IX N X) {Q : Int32 → Rg → Ar → Rg → Ar → Prop} (hQ : ∀ σ' μ', RCn σ' μ' X → Q (afA X) σ' μ' σb μb) : wp_X5_after σ μ σb μb Q := by
  unfold afA at hQ
  refine sc_isOn hC hI (fun e => ⟨fun z => absurd z (by decide), fun _ => ?_⟩) (fun e => ⟨fun _ => ?_, fun z => absurd rfl z⟩)
  · rw [if_pos e] at hQ
    exact sc_look hC hI e (fun σ1 μ1 C1 D1 _ => sc_freeBehind hI.1 D1 (hQ σ1 μ1 C1))
  · rw [if_neg (by omega)] at hQ; exact hQ σ μ hC
theorem cf_tags (hC : RCn σ μ X) (hI : IX N X) {Q : Int64 → Rg → Ar → Rg → Ar → Prop} (hQ : ∀ σ' μ', RCn σ' μ' X → Q (tgA X) σ' μ' σb μb) : wp_X5_tags σ μ σb μb Q := by
  unfold tgA at hQ
  refine sc_isOn hC hI (fun e => ⟨fun z => absurd z (by decide), fun _ => ?_⟩) (fun e => ⟨fun _ => ?_, fun z => absurd rfl z⟩)
  · rw [if_pos e] at hQ
    exact sc_look hC hI e (fun σ1 μ1 C1 D1 _ => sc_valuedTags hI.1 D1 (hQ σ1 μ1 C1))
  · rw [if_neg (by omega)] at hQ; exact hQ σ μ hC
theorem cf_count (hC : RCn σ μ X) (hI : IX N X) {x : Int32} {Q : Int32 → Rg → Ar → Rg → Ar → Prop} (hQ : ∀ σ' μ', RCn σ' μ' X → Q (coA X x) σ' μ' σb μb) : wp_X5_count σ μ σb μb x Q := by
  have hB := hI.1
  have b2 := hB.2.2.2.2.1
  have b10 := hB.2.2.2.2.2.2.2.1
  have hq := hQ σ μ hC
  obtain ⟨a3, a4, a5, a8, a9, a10⟩ := hC.1.1
  unfold coA at hq
  refine ⟨fun z => ?_, fun z => ?_, fun z => ?_, fun z => ?_, fun z => ?_, fun z => ?_, fun z => ?_, fun z => ?_, fun z => ?_⟩
  · rw [if_neg (fun c => by subst c; revert z; decide), if_neg (fun c => by subst c; revert z; decide), if_neg (fun c => by subst c; revert z; decide), if_neg (fun c => by subst c; revert z; decide), if_neg (fun c => by subst c; revert z; decide), if_neg (fun c => by subst c; revert z; decide), if_neg (fun c => by subst c; revert z; decide), if_neg (fun c => by subst c; revert z; decide)] at hq
    exact hq
  · subst z; rw [a3]; exact hq
  · subst z; rw [a4]; exact hq
  · subst z
    rw [if_neg (by decide), if_neg (by decide), if_pos rfl] at hq
    refine sc_isOn hC hI (fun e => ⟨fun z => absurd z (by decide), fun _ => ?_⟩) (fun e => ⟨fun _ => ?_, fun z => absurd rfl z⟩)
    · rw [e] at hq; exact hq
    · rw [e] at hq; exact hq
  · subst z
    rw [if_neg (by decide), if_neg (by decide), if_neg (by decide), if_pos rfl] at hq
    by_cases e : X 2 = 1
    · rw [if_pos e] at hq; rw [(hC.2.2.1 e).1]; exact hq
    · rw [if_neg e] at hq; rw [(hC.2.2.2.1 (by omega)).1]; exact hq
  · subst z
    rw [if_neg (by decide), if_neg (by decide), if_neg (by decide), if_neg (by decide), if_pos rfl] at hq
    by_cases h10 : X 10 = 1
    · obtain ⟨h15, hG⟩ := hC.2.2.2.2.1 h10
      rw [if_pos h10] at hq
      refine ⟨fun z => absurd (h15.symm.trans z) (by decide), fun _ => ?_⟩
      rw [hG.1]; exact hq
    · have h15 := hC.2.2.2.2.2 (by omega)
      rw [if_neg h10] at hq
      exact ⟨fun _ => hq, fun z => absurd h15 z⟩
  · subst z; rw [a8]; exact hq
  · subst z; rw [a10]; exact hq
  · subst z; rw [hC.2.1]; exact hq
theorem sc_scanX (hC : RCn σ μ X) (hI : IX N X) {x : Int32} (hx : tn x < X 0) {Q : Rg → Ar → Prop} (hQ : ∀ σ' μ', RCn σ' μ' X → RDc X (tn x) σ' μ' → Q σ' μ') : wp_X3_scan σ μ x Q :=
  sc_scan hC.1.1 hC.1.2 hI.1 hx (fun σ1 μ1 f1 g1 D1 => hQ σ1 μ1 (hC.fc f1 g1) D1) (tn_e x)
theorem cf_entry (hC : RCn σ μ X) (hI : IX N X) {x1 x2 x3 : Int32} {Q : Int32 → Rg → Ar → Rg → Ar → Prop} (hQ : ∀ r σ' μ', RCn σ' μ' X → Q r σ' μ' σb μb) : wp_X5_entry σ μ σb μb x1 x2 x3 Q := by
  have hE := nE_le (X := X) (s := tn x1) hI.1.2.2.2.1
  refine sc_hasSector hC.1.1.1 hI.1.2.1 (fun s1 => ⟨fun _ => ?_, fun z => absurd z (by decide)⟩) (fun g => ⟨fun z => absurd rfl z, fun _ => hQ _ σ μ hC⟩)
  refine sc_scanX hC hI s1 (fun σ1 μ1 C1 D1 => ⟨fun _ => ?_, fun _ => hQ _ σ1 μ1 C1⟩)
  refine sc_has D1.2.1.1 (by omega) (fun g => ⟨fun _ => ?_, fun z => absurd z (by decide)⟩) (fun g => ⟨fun z => absurd rfl z, fun _ => hQ _ σ1 μ1 C1⟩)
  have vin : vp_in x2 41 := pk_in (tn x2) 41 (by omega) (tn_e x2)
  exact ⟨fun _ => hQ _ σ1 μ1 C1, fun _ => ⟨vin, hQ _ σ1 μ1 C1⟩, fun _ => ⟨vin, hQ _ σ1 μ1 C1⟩, fun _ => ⟨vin, hQ _ σ1 μ1 C1⟩, fun _ => ⟨vin, hQ _ σ1 μ1 C1⟩, fun _ => ⟨vin, hQ _ σ1 μ1 C1⟩⟩
theorem sc_allBytes {s : Nat} (hB : XB N X) (hD : RDc X s σ μ) {Q : Int32 → Rg → Ar → Prop} (hQ : Q (nI (alN X s (nE X s))) σ μ) : wp_X3_allBytes σ μ Q := by
  have hE := nE_le (X := X) (s := s) hB.2.2.2.1
  have key : ∀ d j, j + d = nE X s → wl_X3_allBytes_4 Q (d + 1) σ μ (nI (alN X s j)) (nI j) := by
    intro d
    induction d with
    | zero =>
      intro j hj
      have e : j = nE X s := by omega
      subst e
      exact pk_le (nE X s) (nE X s) (fun _ => hQ) (fun z => absurd z (by omega)) hD.2.1.1 rfl
    | succ d ih =>
      intro j hj
      refine pk_le (nE X s) j (fun z => absurd z (by omega)) (fun _ => ⟨pk_in j 41 (by omega) rfl, fun y ey y2 ey2 => ?_⟩) hD.2.1.1 rfl
      rw [nI_clamp (by omega), (hD.2.1.2 j (by omega)).2.2.2, nI_add] at ey
      rw [ey, ey2, i_p1]
      exact ih (j + 1) (by omega)
  exact ⟨nE X s + 1, key (nE X s) 0 (by omega)⟩
theorem cf_space (hC : RCn σ μ X) (hI : IX N X) {x1 x2 : Int32} {Q : Int32 → Rg → Ar → Rg → Ar → Prop} (hQ : ∀ σ' μ', RCn σ' μ' X → Q (spB X x1 x2) σ' μ' σb μb) : wp_X5_space σ μ σb μb x1 x2 Q := by
  have hB := hI.1
  unfold spB at hQ
  refine sc_hasSector hC.1.1.1 hI.1.2.1 (fun s1 => ⟨fun _ => ?_, fun z => absurd z (by decide)⟩) (fun g => ⟨fun z => absurd rfl z, fun _ => ?_⟩)
  · rw [itp_pos s1] at hQ
    refine sc_scanX hC hI s1 (fun σ1 μ1 C1 D1 => ?_)
    have hq := hQ σ1 μ1 C1
    refine ⟨fun z => ?_, fun z => ?_, fun z => ?_, fun z => ?_, fun z => ?_⟩
    · rw [if_neg (fun c => by subst c; revert z; decide), if_neg (fun c => by subst c; revert z; decide), if_neg (fun c => by subst c; revert z; decide), if_neg (fun c => by subst c; revert z; decide)] at hq
      exact hq
    · subst z; rw [D1.2.2.1]; exact hq
    · subst z; rw [D1.2.2.2.1]; exact hq
    · subst z; exact sc_valuedBytes hB D1 hq
    · subst z; exact sc_allBytes hB D1 (sc_valuedBytes hB D1 hq)
  · rw [itp_neg g] at hQ; exact hQ σ μ hC
theorem isof_c (hB : XB N X) {s i t : Nat} (hi : i < nE X s) (ht : t ≤ 47) : isof X s i t ↔ bt X s (ps X s i) = t ∧ (st2 X s i = 0 ∨ st2 X s i = 1) := by
  unfold isof
  refine ⟨fun c => ⟨c.1, by have := c.2.2; omega⟩, fun c => ⟨c.1, fun h3 => ?_, by omega⟩⟩
  have hen := ent hB hi
  obtain ⟨_, e⟩ := kd_ok (X := X) (s := s) (p := ps X s i) (by omega)
  rw [e] at h3
  have : bt X s (ps X s i) = 63 := by
    unfold kdf at h3
    (repeat' split at h3) <;> omega
  omega
theorem sc_tells {s i : Nat} (hB : XB N X) (hs : s < 6) (hD : RDc X s σ μ) (hi : i < nE X s) {x : Int32} (ht : tn x ≤ 47) {Q : Int32 → Rg → Ar → Prop} (h1 : isof X s i (tn x) → Q 1 σ μ) (h0 : ¬ isof X s i (tn x) → Q 0 σ μ) {y : Int32} (hy : y = nI i) : wp_X3_tells σ μ y x Q := by
  subst hy
  have b1 := hB.2.2.2.1
  have hE := nE_le (X := X) (s := s) b1
  obtain ⟨p1, p2, p3, p4⟩ := hD.2.1.2 i hi
  have p7 := hD.2.2.2.2.2 i hi
  have hen := ent hB hi
  have hge := sz_ge X s (ps X s i)
  have hb := hB.b (s := s) (p := ps X s i) hs (by omega)
  have ic := isof_c hB hi ht
  have st2le : st2 X s i < 2 ^ 31 := by
    unfold st2 itp
    split
    · omega
    · have := st1_le X s (nE X s) i; omega
  have vin : vp_in (nI i) 41 := pk_in i 41 (by omega) rfl
  refine sc_has hD.2.1.1 (by omega) (fun _ => ⟨fun z => absurd z (by decide), fun _ => ⟨vin, ?_⟩⟩) (fun g => absurd (by rw [tn_nI (by omega)]; exact hi) g)
  rw [nI_clamp (by omega), p3, p7]
  refine And.comm.mp (pk_eq (bt X s (ps X s i)) (tn x) (fun zt => ⟨vin, ?_⟩) (fun zt => ⟨bz0, h0 (fun c => zt (ic.mp c).1)⟩) rfl (tn_e x))
  refine pk_eq (st2 X s i) 0 (fun z0 => ⟨bz1, h1 (ic.mpr ⟨zt, Or.inl z0⟩)⟩) (fun z0 => ⟨vin, ?_⟩) rfl rfl
  exact And.comm.mp (pk_eq (st2 X s i) 1 (fun z1 => ⟨bz1, h1 (ic.mpr ⟨zt, Or.inr z1⟩)⟩) (fun z1 => ⟨bz0, h0 (fun c => by have := (ic.mp c).2; omega)⟩) rfl rfl)
theorem cf_history (hC : RCn σ μ X) (hI : IX N X) {x1 x2 : Int32} {Q : Int64 → Rg → Ar → Rg → Ar → Prop} (hQ : ∀ σ' μ', RCn σ' μ' X → Q (hsB X x1 x2) σ' μ' σb μb) : wp_X5_history σ μ σb μb x1 x2 Q := by
  have hB := hI.1
  have b6 := hB.2.1
  have h3 := hI.2.1
  have hE := nE_le (X := X) (s := X 3) hB.2.2.2.1
  unfold hsB at hQ
  refine sc_isOn hC hI (fun e => ⟨fun z => absurd z (by decide), fun _ => ?_⟩) (fun e => ⟨fun _ => ?_, fun z => absurd rfl z⟩)
  rotate_left
  · rw [itp_neg (fun c => absurd (c.1.symm.trans e) (by decide))] at hQ; exact hQ σ μ hC
  refine sc_isTag (fun a => ⟨fun z => absurd z (by decide), fun _ => ?_⟩) (fun a => ⟨fun _ => ?_, fun z => absurd rfl z⟩)
  rotate_left
  · rw [itp_neg (fun c => a c.2.1)] at hQ; exact hQ σ μ hC
  refine ⟨fun z2 => ?_, fun z2 => ?_⟩
  rotate_left
  · rw [itp_neg (fun c => z2 c.2.2)] at hQ; exact hQ σ μ hC
  rw [itp_pos ⟨e, a, z2⟩] at hQ
  refine sc_look hC hI e (fun σ1 μ1 C1 D1 _ => ⟨fun nz y ey => ⟨nE X (X 3) + 1, ?_⟩, fun z => ⟨nE X (X 3) + 1, ?_⟩⟩)
  · have hq := hQ σ1 μ1 C1
    rw [if_neg nz] at hq
    have key : ∀ k, k ≤ nE X (X 3) → ∀ met, Q (hsF X (X 3) (tn x1) x2 k met) σ1 μ1 σb μb → wl_X3_earlierValue_10 (fun r49 σa49 μa49 => Q r49 σa49 μa49 σb μb) (k + 1) σ1 μ1 x1 x2 (nI met) (nI k - 1) := by
      intro k
      induction k with
      | zero =>
        intro hk met hh
        refine ⟨fun _ => ?_, fun z => absurd (show nI 0 - 1 < 0 by decide) z⟩
        have : hsF X (X 3) (tn x1) x2 0 met = -5 := if_neg nz
        rw [this] at hh; exact hh
      | succ k ih =>
        intro hk met hh
        rw [nI_pred]
        have e1 : nI k + (-1 : Int32) = nI k - 1 := (Int32.sub_eq_add_neg (nI k) 1).symm
        refine ⟨fun z => absurd z (nI_pos (by omega)), fun _ => ?_⟩
        refine sc_tells hB (by omega) D1 (by omega) a (fun c => ⟨fun _ => ?_, fun z => absurd z (by decide)⟩) (fun c => ⟨fun z => absurd rfl z, fun _ => ?_⟩) rfl
        · have eh : hsF X (X 3) (tn x1) x2 (k + 1) met = if nI met = x2 then vlL X (X 3) k else hsF X (X 3) (tn x1) x2 k (met + 1) := by show itp _ _ _ = _; rw [itp_pos c]
          rw [eh] at hh
          refine ⟨fun z y3 ey3 => ?_, fun z => ?_⟩
          · rw [if_neg z] at hh
            rw [ey3, i_p1]
            intro y4 ey4
            rw [ey4, e1]
            exact ih (by omega) (met + 1) hh
          · rw [if_pos z] at hh
            exact sc_valueOf hB (by omega) D1 (by omega) c.2.1 hh rfl
        · have eh : hsF X (X 3) (tn x1) x2 (k + 1) met = hsF X (X 3) (tn x1) x2 k met := by show itp _ _ _ = _; rw [itp_neg c]
          rw [eh] at hh
          intro y4 ey4
          rw [ey4, e1]
          exact ih (by omega) met hh
    rw [ey, D1.2.1.1]
    exact key (nE X (X 3)) (Nat.le_refl _) 0 hq
  · have hq := hQ σ1 μ1 C1
    rw [if_pos z] at hq
    have key : ∀ d j, j + d = nE X (X 3) → wl_X3_tellingOf_4 (fun r41 σa41 μa41 => Q (r41).toInt64 σa41 μa41 σb μb) (d + 1) σ1 μ1 x1 (nI (ctN X (X 3) (tn x1) j)) (nI j) := by
      intro d
      induction d with
      | zero =>
        intro j hj
        have e : j = nE X (X 3) := by omega
        subst e
        exact pk_le (nE X (X 3)) (nE X (X 3)) (fun _ => hq) (fun z => absurd z (by omega)) D1.2.1.1 rfl
      | succ d ih =>
        intro j hj
        have st : ∀ v : Nat, ctN X (X 3) (tn x1) (j + 1) = ctN X (X 3) (tn x1) j + v → wb_X3_tellingOf_27 (fun r41 σa41 μa41 => Q (r41).toInt64 σa41 μa41 σb μb) (wl_X3_tellingOf_4 (fun r41 σa41 μa41 => Q (r41).toInt64 σa41 μa41 σb μb) (d + 1)) σ1 μ1 x1 (nI j) (nI v) (nI (ctN X (X 3) (tn x1) j)) := fun v ev y ey y2 ey2 => by
          rw [nI_add, ← ev] at ey
          rw [ey, ey2, i_p1]
          exact ih (j + 1) (by omega)
        refine pk_le (nE X (X 3)) j (fun z => absurd z (by omega)) (fun _ => ?_) D1.2.1.1 rfl
        refine sc_tells hB (by omega) D1 (by omega) a (fun c => ⟨fun z => absurd z (by decide), fun _ => st 1 ?_⟩) (fun c => ⟨fun _ => st 0 ?_, fun z => absurd rfl z⟩) rfl
        · show _ + itp _ _ _ = _; rw [itp_pos c]
        · show _ + itp _ _ _ = _; rw [itp_neg c]
    exact key (nE X (X 3)) 0 (by omega)
end CM
