/-! theirs: READING, the whole -/
/-- what READING leaves -/
def RDc (X : Nat → Nat) (s : Nat) (σ : Rg) (μ : Ar) : Prop := RRw X s σ μ ∧ PC X s (nE X s) σ μ ∧ σ 13 = nI (frE X s) ∧ σ 14 = nI (loE X s) ∧ (∀ t, t < 48 → μ 8 t = nwI (nwt X s t)) ∧ ∀ i, i < nE X s → μ 7 i = nI (st2 X s i)
def FEs (σ σ' : Rg) : Prop := ∀ k, k ≠ 12 → k ≠ 14 → σ' k = σ k
def FEm (μ μ' : Ar) : Prop := ∀ k, k < 3 ∨ 8 ≤ k → μ' k = μ k
section CD
variable {σ : Rg} {μ : Ar} {X : Nat → Nat} {N : Nat}
theorem sc_copySector (hS : RCs σ X) (hb : RCb μ X) (hB : XB N X) {s : Nat} (hs : s < X 0) {Q : Rg → Ar → Prop} (hQ : ∀ μ', (∀ p, p < X 1 → μ' 2 p = nI (bt X s p)) → (∀ k, k ≠ 2 → μ' k = μ k) → Q σ μ') {x : Int32} (hx : x = nI s) : wp_X1_copySector σ μ x Q := by
  subst hx
  have b6 := hB.2.1
  have b1 := hB.2.2.2.1
  refine sc_hasSector hS.1 b6 (fun _ => ⟨fun _ => ⟨X 1 + 1, ?_⟩, fun z => absurd z (by decide)⟩) (fun g => absurd (by rw [tn_nI (by omega)]; exact hs) g)
  have key : ∀ d j, j + d = X 1 → ∀ μ1, (∀ p, p < j → μ1 2 p = nI (bt X s p)) → (∀ k, k ≠ 2 → μ1 k = μ k) → wl_X1_copySector_11 Q (d + 1) σ μ1 (nI s) (nI j) := by
    intro d
    induction d with
    | zero =>
      intro j hj μ1 r1 f1
      have e : j = X 1 := by omega
      subst e
      exact pk_le (X 1) (X 1) (fun _ => hQ μ1 r1 f1) (fun z => absurd z (by omega)) hS.2.1 rfl
    | succ d ih =>
      intro j hj μ1 r1 f1
      have hl := ad_lt (p := j) hs (show j < X 1 by omega) b6 b1
      refine pk_le (X 1) j (fun z => absurd z (by omega)) (fun _ => pk_le 128 j (fun z => absurd z (by omega)) (fun _ => ⟨pk_in _ 768 hl (adI hS.2.1), pk_in j 128 (by omega) rfl, fun μ2 e2 y ey => ?_⟩) rfl rfl) hS.2.1 rfl
      rw [adI hS.2.1, nI_clamp (by omega), nI_clamp (by omega), f1 0 (by omega), hb.1 s j hs (by omega)] at e2
      rw [ey, i_p1]
      refine ih (j + 1) (by omega) μ2 (fun p hp => ?_) (fun k hk => by rw [e2, ua_n hk]; exact f1 k hk)
      rw [e2, ua_s]
      by_cases g : p = j
      · rw [g, up_s]
      · rw [up_n g]; exact r1 p (by omega)
  exact key (X 1) 0 (by omega) μ (fun p hp => absurd hp (by omega)) (fun _ _ => rfl)
theorem sc_take_no {s p : Nat} (hR : RRw X s σ μ) (hB : XB N X) (hs : s < 6) (hp : p < X 1) (hno : kd X s p = 4 ∨ X 1 < p + sz X s p) {Q : Int32 → Rg → Ar → Prop} (hQ : ∀ σ', (∀ k, k ≠ 14 → σ' k = σ k) → σ' 14 = nI (X 1 - p) → Q (nI p) σ' μ) : wp_X3_takeEntry σ μ (nI p) Q := by
  have b1 := hB.2.2.2.1
  have hbp := hB.b (s := s) (p := p) hs (by omega)
  have hbe : btE X s (p + 1) ≤ 255 := by
    unfold btE; split
    · exact hB.b hs (by omega)
    · omega
  have c55 : wb_X3_takeEntry_55 Q σ μ (nI p) := by
    intro σ2 e2
    refine hQ σ2 (fun k hk => by rw [e2, up_n hk]) ?_
    rw [e2, up_s, hR.1, pk_sub (by omega)]
  refine sc_byteAt hR b1 hp (sc_byteAtE hR b1 (p := p + 1) (by omega) (sc_kindOf hbp hbe ?_) (by rw [i_p1])) rfl
  refine sc_sizeOf hbe (fun m hm => ?_)
  rw [kd_btE] at hm ⊢
  refine ⟨fun _ => c55, fun z => ?_⟩
  have h4 : kd X s p ≠ 4 := fun c => z (by rw [c]; rfl)
  have hk1 := kd_ok h4
  have hsz : m = nI (sz X s p) := by
    rw [hm h4]; unfold sz btE; rw [if_pos hk1.1]
  have hle := sz_le X s p
  rw [hsz, nI_add]
  refine pk_lt (X 1) (p + sz X s p) (fun _ => c55) (fun g => ?_) hR.1 rfl
  rcases hno with h | h
  · exact absurd h h4
  · omega
theorem sc_take_ok {s e : Nat} (hR : RRw X s σ μ) (hB : XB N X) (hs : s < 6) (hok : ∀ i, i < e + 1 → okE X s i) (hP : PC X s e σ μ) (hM : MK X s e e μ) {Q : Int32 → Rg → Ar → Prop} (hQ : ∀ σ' μ', FEs σ σ' → σ' 14 = σ 14 → FEm μ μ' → PC X s (e + 1) σ' μ' → MK X s (e + 1) (e + 1) μ' → Q (nI (ps X s (e + 1))) σ' μ') : wp_X3_takeEntry σ μ (nI (ps X s e)) Q := by
  have b1 := hB.2.2.2.1
  have hoke := hok e (by omega)
  have he := ok_lt hoke b1
  obtain ⟨⟨g1, g2⟩, h4, g4⟩ := hoke
  have hbp := hB.b (s := s) (p := ps X s e) hs (by omega)
  have hk1 := kd_ok h4
  have hkl := kd_le X s (ps X s e)
  have hle := sz_le X s (ps X s e)
  have ebe : btE X s (ps X s e + 1) = bt X s (ps X s e + 1) := by unfold btE; rw [if_pos hk1.1]
  have hbe : btE X s (ps X s e + 1) ≤ 255 := by rw [ebe]; exact hB.b hs (by omega)
  refine sc_byteAt hR b1 g1 (sc_byteAtE hR b1 (p := ps X s e + 1) (by omega) (sc_kindOf hbp hbe ?_) (by rw [i_p1])) rfl
  refine sc_sizeOf hbe (fun m hm => ?_)
  rw [kd_btE] at hm ⊢
  have hsz : m = nI (sz X s (ps X s e)) := by rw [hm h4, ebe]; rfl
  have ek : kI (kd X s (ps X s e)) = nI (kd X s (ps X s e)) := if_neg h4
  rw [hsz, ek, nI_add]
  refine ⟨fun z => absurd (by rw [z]; decide) (nI_pos (n := kd X s (ps X s e)) (by omega)), fun _ => ?_⟩
  refine pk_lt (X 1) (ps X s e + sz X s (ps X s e)) (fun z => absurd z (by omega)) (fun _ => ?_) hR.1 rfl
  have vin : vp_in (σ 12) 41 := pk_in e 41 (by omega) hP.1
  refine pk_lt e 41 (fun _ => ⟨vin, fun μ2 e2 => ⟨vin, fun μ3 e3 => ⟨vin, fun μ4 e4 => ⟨vin, fun μ5 e5 => ?_⟩⟩⟩⟩) (fun z => absurd z (by omega)) hP.1 rfl
  have ec : (σ 12).toNatClampNeg = e := by rw [hP.1, nI_clamp (by omega)]
  rw [ec] at e2 e3 e4 e5
  have R5 : RRw X s σ μ5 := ⟨hR.1, fun p hp => by rw [e5, ua_n (by omega), e4, ua_n (by omega), e3, ua_n (by omega), e2, ua_n (by omega)]; exact hR.2 p hp⟩
  refine sc_firstMark R5 hB hs h4 g4 ⟨vin, fun μ6 e6 σ7 e7 => ?_⟩
  rw [ec] at e6
  have s12 : σ7 12 = nI (e + 1) := by rw [e7, up_s, hP.1, i_p1]
  have f6 : FEm μ μ6 := fun q hq => by rw [e6, ua_n (by omega), e5, ua_n (by omega), e4, ua_n (by omega), e3, ua_n (by omega), e2, ua_n (by omega)]
  have P7 : PC X s (e + 1) σ7 μ6 := by
    refine ⟨s12, fun i hi => ?_⟩
    by_cases g : i = e
    · subst g
      refine ⟨?_, ?_, ?_, ?_⟩
      · rw [e6, ua_n (by omega), e5, ua_n (by omega), e4, ua_n (by omega), e3, ua_n (by omega), e2, ua_s, up_s]
      · rw [e6, ua_n (by omega), e5, ua_n (by omega), e4, ua_n (by omega), e3, ua_s, up_s]
      · rw [e6, ua_n (by omega), e5, ua_n (by omega), e4, ua_s, up_s]
      · rw [e6, ua_n (by omega), e5, ua_s, up_s]
    · obtain ⟨p1, p2, p3, p4⟩ := hP.2 i (by omega)
      refine ⟨?_, ?_, ?_, ?_⟩
      · rw [e6, ua_n (by omega), e5, ua_n (by omega), e4, ua_n (by omega), e3, ua_n (by omega), e2, ua_s, up_n g]; exact p1
      · rw [e6, ua_n (by omega), e5, ua_n (by omega), e4, ua_n (by omega), e3, ua_s, up_n g, e2, ua_n (by omega)]; exact p2
      · rw [e6, ua_n (by omega), e5, ua_n (by omega), e4, ua_s, up_n g, e3, ua_n (by omega), e2, ua_n (by omega)]; exact p3
      · rw [e6, ua_n (by omega), e5, ua_s, up_n g, e4, ua_n (by omega), e3, ua_n (by omega), e2, ua_n (by omega)]; exact p4
  have M7 : MK X s (e + 1) e μ6 := fun i hi => by
    rw [e6, ua_s]
    by_cases g : i = e
    · rw [g, up_s, st1_self]
    · rw [up_n g, e5, ua_n (by omega), e4, ua_n (by omega), e3, ua_n (by omega), e2, ua_n (by omega)]; exact hM i (by omega)
  have fs : FEs σ σ7 := fun q h12 _ => by rw [e7, up_n h12]
  have s14 : σ7 14 = σ 14 := by rw [e7, up_n (by omega)]
  refine And.comm.mp (pk_eq (kd X s (ps X s e)) 3 (fun z3 => ?_) (fun z3 => ?_) rfl rfl)
  · have R7 : RRw X s σ7 μ6 := ⟨by rw [e7, up_n (by omega)]; exact hR.1, fun p hp => by rw [f6 2 (by omega)]; exact hR.2 p hp⟩
    refine sc_settleParts R7 hB hs he hok P7 M7 z3 (fun μ8 f8 M8 => ?_) (by rw [s12, nI_pred])
    have := hQ σ7 μ8 fs s14 (fun q hq => by rw [f8 q (by omega)]; exact f6 q hq) (P7.f7 f8) M8
    show Q (nI (ps X s e) + nI (sz X s (ps X s e))) σ7 μ8
    rw [nI_add]; exact this
  · have nc : ¬ cn X s e := fun c => z3 c.1
    have := hQ σ7 μ6 fs s14 f6 P7 (fun i hi => by rw [st1_no nc]; exact M7 i hi)
    show Q (nI (ps X s e) + nI (sz X s (ps X s e))) σ7 μ6
    rw [nI_add]; exact this
theorem sc_fill8 {Q : Rg → Ar → Prop} (hQ : ∀ μ', (∀ t, t < 48 → μ' 8 t = -1) → (∀ k, k ≠ 8 → μ' k = μ k) → Q σ μ') : wp_J7_fill_53178_11 σ μ (-1) Q := by
  have key : ∀ d j, j + d = 48 → ∀ μ1, (∀ t, t < j → μ1 8 t = -1) → (∀ k, k ≠ 8 → μ1 k = μ k) → wl_J7_fill_53178_11_5 Q (d + 1) σ μ1 (-1) (nI j) 48 := by
    intro d
    induction d with
    | zero =>
      intro j hj μ1 r1 f1
      have e : j = 48 := by omega
      subst e
      exact pk_le 48 48 (fun _ => hQ μ1 r1 f1) (fun z => absurd z (by omega)) rfl rfl
    | succ d ih =>
      intro j hj μ1 r1 f1
      refine pk_le 48 j (fun z => absurd z (by omega)) (fun _ => ⟨pk_in j 48 (by omega) rfl, fun μ2 e2 y ey => ?_⟩) rfl rfl
      rw [nI_clamp (by omega)] at e2
      rw [ey, i_p1]
      refine ih (j + 1) (by omega) μ2 (fun t ht => ?_) (fun k hk => by rw [e2, ua_n hk]; exact f1 k hk)
      rw [e2, ua_s]
      by_cases g : t = j
      · rw [g, up_s]
      · rw [up_n g]; exact r1 t (by omega)
  exact ⟨49, key 48 0 (by omega) μ (fun t ht => absurd ht (by omega)) (fun _ _ => rfl)⟩
def FMm (μ μ' : Ar) : Prop := ∀ k, k ≠ 7 → k ≠ 8 → μ' k = μ k
theorem st2j_no {s t i : Nat} (e0 : nwt X s t ≠ i + 1) : st2j X s (t + 1) i = st2j X s t i := by
  unfold st2j
  have : (∃ a, a < t + 1 ∧ nwt X s a = i + 1) = (∃ a, a < t ∧ nwt X s a = i + 1) := propext ⟨fun ⟨a, h, h2⟩ => ⟨a, by
    rcases Nat.lt_or_ge a t with g | g
    · exact g
    · have : a = t := by omega
      subst this; exact absurd h2 e0, h2⟩, fun ⟨a, h, h2⟩ => ⟨a, by omega, h2⟩⟩
  rw [this]
theorem sc_markNewest {s : Nat} (hB : XB N X) (hP : PC X s (nE X s) σ μ) (hM : MK X s (nE X s) (nE X s) μ) {Q : Rg → Ar → Prop} (hQ : ∀ μ', FMm μ μ' → (∀ t, t < 48 → μ' 8 t = nwI (nwt X s t)) → (∀ i, i < nE X s → μ' 7 i = nI (st2 X s i)) → Q σ μ') : wp_X3_markNewest σ μ Q := by
  have b1 := hB.2.2.2.1
  have hE := nE_le (X := X) (s := s) b1
  have l2 : ∀ d t, t + d = 48 → ∀ μ1, FMm μ μ1 → (∀ t, t < 48 → μ1 8 t = nwI (nwt X s t)) → (∀ i, i < nE X s → μ1 7 i = nI (st2j X s t i)) → wl_X3_markNewest_60 Q (d + 1) σ μ1 (nI t) := by
    intro d
    induction d with
    | zero =>
      intro t ht μ1 f1 n1 m1
      have et : t = 48 := by omega
      subst et
      exact pk_le 48 48 (fun _ => hQ μ1 f1 n1 m1) (fun z => absurd z (by omega)) rfl rfl
    | succ d ih =>
      intro t ht μ1 f1 n1 m1
      have vin : vp_in (nI t) 48 := pk_in t 48 (by omega) rfl
      have hle : nwt X s t ≤ nE X s := nwN_le X s (nE X s) t
      refine pk_le 48 t (fun z => absurd z (by omega)) (fun _ => ⟨vin, ?_⟩) rfl rfl
      rw [nI_clamp (by omega), n1 t (by omega)]
      by_cases h0 : nwt X s t = 0
      · rw [h0]
        refine sc_has hP.1 (by omega) (fun g => absurd g (by have : tn (nwI 0) = 4294967295 := by decide
                                                             omega)) (fun _ => ⟨fun _ y ey => ?_, fun z => absurd rfl z⟩)
        rw [ey, i_p1]
        exact ih (t + 1) (by omega) μ1 f1 n1 (fun i hi => by rw [st2j_no (by omega)]; exact m1 i hi)
      · rw [nwI_some h0]
        refine sc_has hP.1 (by omega) (fun _ => ⟨fun z => absurd z (by decide), fun _ => ⟨vin, ?_⟩⟩) (fun g => absurd (by rw [tn_nI (by omega)]; omega) g)
        rw [n1 t (by omega), nwI_some h0]
        refine ⟨pk_in _ 41 (by omega) rfl, fun μ2 e2 y ey => ?_⟩
        rw [nI_clamp (by omega)] at e2
        rw [ey, i_p1]
        refine ih (t + 1) (by omega) μ2 (fun q h7 h8 => by rw [e2, ua_n h7]; exact f1 q h7 h8) (fun a ha => by rw [e2, ua_n (by omega)]; exact n1 a ha) (fun i hi => ?_)
        rw [e2, ua_s]
        by_cases g : i = nwt X s t - 1
        · rw [g, up_s]
          unfold st2j
          rw [itp_pos ⟨t, by omega, by omega⟩]; rfl
        · rw [up_n g, st2j_no (by omega)]; exact m1 i hi
  have l1 : ∀ d j, j + d = nE X s → ∀ μ1, (∀ k, k ≠ 8 → μ1 k = μ k) → (∀ t, t < 48 → μ1 8 t = nwI (nwN X s j t)) → wl_X3_markNewest_10 Q (d + 1) σ μ1 (nI j) := by
    intro d
    induction d with
    | zero =>
      intro j hj μ1 f1 n1
      have ej : j = nE X s := by omega
      rw [ej] at n1 ⊢
      refine pk_le (nE X s) (nE X s) (fun _ => ⟨49, ?_⟩) (fun z => absurd z (by omega)) hP.1 rfl
      refine l2 48 0 (by omega) μ1 (fun q h7 h8 => f1 q h8) n1 (fun i hi => ?_)
      rw [f1 7 (by omega), hM i hi]; unfold st2j; rw [itp_neg (fun ⟨a, h, _⟩ => absurd h (by omega))]
    | succ d ih =>
      intro j hj μ1 f1 n1
      have vin : vp_in (nI j) 41 := pk_in j 41 (by omega) rfl
      have hj' : j < nE X s := by omega
      obtain ⟨p1, p2, p3, p4⟩ := hP.2 j hj'
      have hsl := st1_le X s (nE X s) j
      have hen := ent hB hj'
      refine pk_le (nE X s) j (fun z => absurd z (by omega)) (fun _ => ⟨vin, ?_⟩) hP.1 rfl
      rw [nI_clamp (by omega), f1 7 (by omega), f1 5 (by omega), hM j hj', p3]
      have next : ¬ (kd X s (ps X s j) ≠ 3 ∧ st1 X s (nE X s) j = 1) → wb_X3_markNewest_52 Q (wl_X3_markNewest_10 Q (d + 1)) σ μ1 (nI j) := fun hc y ey => by
        rw [ey, i_p1]
        refine ih (j + 1) (by omega) μ1 f1 (fun t ht => ?_)
        rw [n1 t ht]
        show nwI (nwN X s j t) = nwI (itp _ _ _)
        rw [itp_neg (fun c => hc ⟨c.1, c.2.1⟩)]
      refine And.comm.mp (pk_eq (st1 X s (nE X s) j) 1 (fun z1 => ⟨vin, ?_⟩) (fun z1 => next (fun c => z1 c.2)) rfl rfl)
      have k3 : kd X s (ps X s j) ≠ 3 := fun g => by
        have : st1 X s (nE X s) j ≠ 1 := by
          unfold st1 itp
          (repeat' split) <;> omega
        exact this z1
      have hl := hen.2.2.2.2.2 k3
      refine ⟨fun z => absurd z (nI_pos (by omega)), fun _ => pk_le 48 (bt X s (ps X s j)) (fun z => absurd z (by omega)) (fun _ => ⟨bz1, fun z => absurd z (by decide), fun _ => ⟨vin, pk_in _ 48 hl rfl, fun μ2 e2 y ey => ?_⟩⟩) rfl rfl⟩
      rw [nI_clamp (by omega)] at e2
      rw [ey, i_p1]
      refine ih (j + 1) (by omega) μ2 (fun q h8 => by rw [e2, ua_n h8]; exact f1 q h8) (fun t ht => ?_)
      rw [e2, ua_s]
      show _ = nwI (itp _ _ _)
      by_cases g : t = bt X s (ps X s j)
      · rw [g, up_s, itp_pos ⟨k3, z1, rfl⟩]; rfl
      · rw [up_n g, itp_neg (fun c => g c.2.2.symm)]; exact n1 t ht
  refine sc_fill8 (fun μ1 r1 f1 => ⟨nE X s + 1, l1 (nE X s) 0 (by omega) μ1 f1 (fun t ht => by rw [r1 t ht]; rfl)⟩)
theorem sc_scan (hS : RCs σ X) (hb : RCb μ X) (hB : XB N X) {s : Nat} (hs : s < X 0) {Q : Rg → Ar → Prop} (hQ : ∀ σ' μ', FCs σ σ' → FCm μ μ' → RDc X s σ' μ' → Q σ' μ') {x : Int32} (hx : x = nI s) : wp_X3_scan σ μ x Q := by
  have b6 := hB.2.1
  have b1 := hB.2.2.2.1
  have hE := nE_spec (X := X) (s := s) b1
  have hEl := nE_le (X := X) (s := s) b1
  intro σ1 e1
  have S1 : RCs σ1 X := by
    obtain ⟨a3, a4, a5, a8, a9, a10⟩ := hS
    exact ⟨by rw [e1, up_n (by omega)]; exact a3, by rw [e1, up_n (by omega)]; exact a4, by rw [e1, up_n (by omega)]; exact a5, by rw [e1, up_n (by omega)]; exact a8, by rw [e1, up_n (by omega)]; exact a9, by rw [e1, up_n (by omega)]; exact a10⟩
  refine sc_copySector S1 hb hB hs (fun μ1 r1 f1 σ2 e2 σ3 e3 => ?_) hx
  have s3 : ∀ k, k ≠ 11 → k ≠ 12 → k ≠ 14 → σ3 k = σ k := fun k h11 h12 h14 => by rw [e3, up_n h14, e2, up_n h12, e1, up_n h11]
  have S3 : RCs σ3 X := by
    obtain ⟨a3, a4, a5, a8, a9, a10⟩ := hS
    exact ⟨by rw [s3 _ (by omega) (by omega) (by omega)]; exact a3, by rw [s3 _ (by omega) (by omega) (by omega)]; exact a4, by rw [s3 _ (by omega) (by omega) (by omega)]; exact a5, by rw [s3 _ (by omega) (by omega) (by omega)]; exact a8, by rw [s3 _ (by omega) (by omega) (by omega)]; exact a9, by rw [s3 _ (by omega) (by omega) (by omega)]; exact a10⟩
  have b3 : RCb μ1 X := ⟨fun s' p' h1 h2 => by rw [f1 0 (by omega)]; exact hb.1 s' p' h1 h2, fun s' h1 => by rw [f1 1 (by omega)]; exact hb.2 s' h1⟩
  have z11 : σ3 11 = nI (X 1) := by rw [e3, up_n (by omega), e2, up_n (by omega), e1, up_s]; exact hS.2.1
  have z12 : σ3 12 = nI 0 := by rw [e3, up_n (by omega), e2, up_s]; rfl
  have z14 : σ3 14 = nI 0 := by rw [e3, up_s]; rfl
  refine sc_usedEnd S3 b3 hB hs (fun n hn => ⟨nE X s + 3, ?_⟩) hx
  -- the end
  have c90 : ∀ σ' μ', FEs σ3 σ' → FEm μ1 μ' → PC X s (nE X s) σ' μ' → MK X s (nE X s) (nE X s) μ' → σ' 14 = nI (loE X s) → wb_X3_scan_90 Q σ' μ' (nI (frE X s)) := by
    intro σ' μ' fs fm P M h14 σ4 e4
    refine sc_markNewest (σ := σ4) hB ⟨by rw [e4, up_n (by omega)]; exact P.1, P.2⟩ M (fun μ5 f5 n5 m5 => ?_)
    have s4 : ∀ k, k ≠ 11 → k ≠ 12 → k ≠ 13 → k ≠ 14 → σ4 k = σ k := fun k h11 h12 h13 h14 => by rw [e4, up_n h13, fs k h12 h14, s3 k h11 h12 h14]
    refine hQ σ4 μ5 s4 (fun q hq => by rw [f5 q (by omega) (by omega), fm q (by omega), f1 q (by omega)]) ⟨⟨?_, fun p hp => ?_⟩, ⟨?_, fun i hi => ?_⟩, ?_, ?_, n5, m5⟩
    · rw [e4, up_n (by omega), fs 11 (by omega) (by omega)]; exact z11
    · rw [f5 2 (by omega) (by omega), fm 2 (by omega)]; exact r1 p hp
    · rw [e4, up_n (by omega)]; exact P.1
    · rw [f5 3 (by omega) (by omega), f5 4 (by omega) (by omega), f5 5 (by omega) (by omega), f5 6 (by omega) (by omega)]; exact P.2 i hi
    · rw [e4, up_s]
    · rw [e4, up_n (by omega)]; exact h14
  have hps := ps_le hB s
  -- stop where nothing is lost
  have cst : stopE X s (nE X s) → ∀ σ' μ', FEs σ3 σ' → FEm μ1 μ' → PC X s (nE X s) σ' μ' → MK X s (nE X s) (nE X s) μ' → σ' 14 = nI 0 → wb_X3_scan_73 Q σ' μ' (nI (ps X s (nE X s))) := by
    intro hst σ' μ' fs fm P M h14
    have ef : frE X s = ps X s (nE X s) := by unfold frE; rw [itp_pos hst]
    have el : loE X s = 0 := by unfold loE; rw [itp_pos hst]
    refine pk_le 0 0 (fun _ => ?_) (fun z => absurd z (by omega)) h14 rfl
    rw [← ef]; exact c90 σ' μ' fs fm P M (by rw [el]; exact h14)
  have cns : ¬ stopE X s (nE X s) → ∀ σ' μ', FEs σ3 σ' → FEm μ1 μ' → PC X s (nE X s) σ' μ' → MK X s (nE X s) (nE X s) μ' → σ' 14 = nI (X 1 - ps X s (nE X s)) → wb_X3_scan_73 Q σ' μ' (nI (ps X s (nE X s))) := by
    intro hst σ' μ' fs fm P M h14
    have hlt : ps X s (nE X s) < X 1 := Nat.not_le.mp (fun g => hst (Or.inl g))
    have ef : frE X s = X 1 := by unfold frE; rw [itp_neg hst]
    have el : loE X s = X 1 - ps X s (nE X s) := by unfold loE; rw [itp_neg hst]
    refine pk_le (X 1 - ps X s (nE X s)) 0 (fun z => absurd z (by omega)) (fun _ => ?_) h14 rfl
    rw [fs 11 (by omega) (by omega), z11, ← ef]; exact c90 σ' μ' fs fm P M (by rw [el]; exact h14)
  have key : ∀ d e, e + d = nE X s → ∀ σ' μ', FEs σ3 σ' → FEm μ1 μ' → PC X s e σ' μ' → MK X s e e μ' → σ' 14 = nI 0 → wl_X3_scan_39 Q (d + 3) σ' μ' (nI n) (nI (ps X s e)) (nI e) := by
    intro d
    induction d with
    | zero =>
      intro e he σ' μ' fs fm P M h14
      have ee : e = nE X s := by omega
      rw [ee] at P M ⊢
      have hn1 := hn.1
      have R' : RRw X s σ' μ' := ⟨by rw [fs 11 (by omega) (by omega)]; exact z11, fun p hp => by rw [fm 2 (by omega)]; exact r1 p hp⟩
      refine pk_lt 41 (nE X s) (fun z => absurd z (by omega)) (fun _ => ?_) rfl rfl
      refine pk_le n (ps X s (nE X s)) (fun z => ?_) (fun z => ?_) rfl rfl
      · exact cst (Or.inr ((end_bl hn).mpr z)) σ' μ' fs fm P M h14
      · have hst : ¬ stopE X s (nE X s) := fun c => by
          rcases c with c | c
          · omega
          · have := (end_bl hn).mp c; omega
        refine And.comm.mp (pk_eq 0 0 (fun _ => ?_) (fun z => absurd rfl z) h14 rfl)
        have hno : kd X s (ps X s (nE X s)) = 4 ∨ X 1 < ps X s (nE X s) + sz X s (ps X s (nE X s)) := by
          by_cases h1 : kd X s (ps X s (nE X s)) = 4
          · exact Or.inl h1
          · by_cases h2 : ps X s (nE X s) + sz X s (ps X s (nE X s)) ≤ X 1
            · exact absurd ⟨⟨by omega, fun c => hst (Or.inr c)⟩, h1, h2⟩ hE.2
            · exact Or.inr (by omega)
        refine sc_take_no R' hB (by omega) (by omega) hno (fun σ4 f4 h4 y ey => ?_)
        rw [ey, i_p1]
        have fin : wb_X3_scan_73 Q σ4 μ' (nI (ps X s (nE X s))) := cns hst σ4 μ' (fun q h12 h14 => by rw [f4 q h14]; exact fs q h12 h14) fm ⟨by rw [f4 12 (by omega)]; exact P.1, P.2⟩ M h4
        refine pk_lt 41 (nE X s + 1) (fun _ => fin) (fun _ => ?_) rfl rfl
        refine pk_le n (ps X s (nE X s)) (fun _ => fin) (fun _ => ?_) rfl rfl
        exact And.comm.mp (pk_eq (X 1 - ps X s (nE X s)) 0 (fun z2 => absurd z2 (by omega)) (fun _ => fin) h4 rfl)
    | succ d ih =>
      intro e he σ' μ' fs fm P M h14
      have hn1 := hn.1
      have hoke := hE.1 e (by omega)
      have R' : RRw X s σ' μ' := ⟨by rw [fs 11 (by omega) (by omega)]; exact z11, fun p hp => by rw [fm 2 (by omega)]; exact r1 p hp⟩
      have hnp : ps X s e < n := Nat.not_le.mp (fun g => hoke.1.2 ((end_bl hn).mpr g))
      refine pk_lt 41 e (fun z => absurd z (by omega)) (fun _ => ?_) rfl rfl
      refine pk_le n (ps X s e) (fun z => absurd z (by omega)) (fun _ => ?_) rfl rfl
      refine And.comm.mp (pk_eq 0 0 (fun _ => ?_) (fun z => absurd rfl z) h14 rfl)
      refine sc_take_ok R' hB (by omega) (fun i hi => hE.1 i (by omega)) P M (fun σ4 μ4 f4 h4 m4 P4 M4 y ey => ?_)
      rw [ey, i_p1]
      exact ih (e + 1) (by omega) σ4 μ4 (fun q h12 h14 => by rw [f4 q h12 h14]; exact fs q h12 h14) (fun q hq => by rw [m4 q hq]; exact fm q hq) P4 M4 (by rw [h4]; exact h14)
  exact key (nE X s) 0 (by omega) σ3 μ1 (fun _ _ _ => rfl) (fun _ _ => rfl) ⟨z12, fun i hi => absurd hi (by omega)⟩ (fun i hi => absurd hi (by omega)) z14
end CD
