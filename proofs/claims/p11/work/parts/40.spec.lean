/-! numbers: the abstract state X (the reference's row x as naturals), doings, reading in closed form -/
noncomputable def itp {α : Type} (p : Prop) (a b : α) : α := @ite α p (Classical.propDecidable p) a b
theorem itp_pos {α : Type} {p : Prop} {a b : α} (h : p) : itp p a b = a := by unfold itp; exact if_pos h
theorem itp_neg {α : Type} {p : Prop} {a b : α} (h : ¬ p) : itp p a b = b := by unfold itp; exact if_neg h
def ux (X : Nat → Nat) (k v : Nat) : Nat → Nat := fun j => if j = k then v else X j
theorem ux_s {X : Nat → Nat} {k v : Nat} : ux X k v k = v := by simp [ux]
theorem ux_n {X : Nat → Nat} {k v j : Nat} (h : j ≠ k) : ux X k v j = X j := by simp [ux, h]
theorem up_s {f : Nat → Int32} {k : Nat} {v : Int32} : upd f k v k = v := by simp [upd]
theorem up_n {f : Nat → Int32} {k j : Nat} {v : Int32} (h : j ≠ k) : upd f k v j = f j := by simp [upd, h]
theorem ua_s {μ : Ar} {k : Nat} {f : Nat → Int32} : updA μ k f k = f := by simp [updA]
theorem ua_n {μ : Ar} {k j : Nat} {f : Nat → Int32} (h : j ≠ k) : updA μ k f j = μ j := by simp [updA, h]
theorem i_or (a b : Nat) : nI a ||| nI b = nI (a ||| b) := by
  apply Int32.toBitVec_inj.mp
  show BitVec.ofNat 32 a ||| BitVec.ofNat 32 b = BitVec.ofNat 32 (a ||| b)
  apply BitVec.eq_of_getLsbD_eq
  intro i hi
  simp [BitVec.getLsbD_or, BitVec.getLsbD_ofNat, hi, Nat.testBit_or]
theorem i_and (a b : Nat) : nI a &&& nI b = nI (a &&& b) := by
  apply Int32.toBitVec_inj.mp
  show BitVec.ofNat 32 a &&& BitVec.ofNat 32 b = BitVec.ofNat 32 (a &&& b)
  apply BitVec.eq_of_getLsbD_eq
  intro i hi
  simp [BitVec.getLsbD_and, BitVec.getLsbD_ofNat, hi, Nat.testBit_and]
theorem i_xor (a b : Nat) : nI a ^^^ nI b = nI (a ^^^ b) := by
  apply Int32.toBitVec_inj.mp
  show BitVec.ofNat 32 a ^^^ BitVec.ofNat 32 b = BitVec.ofNat 32 (a ^^^ b)
  apply BitVec.eq_of_getLsbD_eq
  intro i hi
  simp [BitVec.getLsbD_xor, BitVec.getLsbD_ofNat, hi, Nat.testBit_xor]
theorem i_not8 : ∀ m, m < 256 → (255 : Int32) &&& (nI m ^^^ (-1 : Int32)) = nI (255 ^^^ m) := by decide +kernel
theorem i_add (a b : Nat) : nI a + nI b = nI (a + b) := nI_add a b
theorem i_addl (a b : Nat) {x : Int32} (h : x = nI a) : x + nI b = nI (a + b) := by rw [h]; exact nI_add a b
theorem adr (s p : Nat) : ((42 : Int32) + ((128 : Int32) * nI s)) + nI p = nI (42 + 128 * s + p) := by
  rw [show (42 : Int32) = nI 42 from rfl, show (128 : Int32) = nI 128 from rfl, pk_mul, nI_add, nI_add]
theorem i_36 (s : Nat) : (36 : Int32) + nI s = nI (36 + s) := by rw [show (36 : Int32) = nI 36 from rfl, nI_add]
theorem i_12 (s : Nat) : (12 : Int32) + nI s = nI (12 + s) := by rw [show (12 : Int32) = nI 12 from rfl, nI_add]
theorem i_20 (s : Nat) : (20 : Int32) + nI s = nI (20 + s) := by rw [show (20 : Int32) = nI 20 from rfl, nI_add]
theorem i_28 (s : Nat) : (28 : Int32) + nI s = nI (28 + s) := by rw [show (28 : Int32) = nI 28 from rfl, nI_add]
theorem i_p1 (a : Nat) : nI a + (1 : Int32) = nI (a + 1) := nI_1 a
theorem i_rem (a d : Nat) (ha : a < 2 ^ 31) (h0 : 0 < d) (hd : d < 2 ^ 31) {x y : Int32} (hx : x = nI a) (hy : y = nI d) : x - x / y * y = nI (a % d) := by rw [hx, hy]; exact pk_rem ha h0 hd
theorem i_chk (a : Nat) (ha : a < 2 ^ 30) : (nI a + (85 : Int32)) - (nI a + (85 : Int32)) / (251 : Int32) * (251 : Int32) = nI ((a + 85) % 251) := by
  have h : nI a + (85 : Int32) = nI (a + 85) := by rw [show (85 : Int32) = nI 85 from rfl, nI_add]
  exact i_rem (a + 85) 251 (by omega) (by omega) (by omega) h rfl
/-- the reference's row is X -/
def RM (μ : Ar) (X : Nat → Nat) : Prop := ∀ k, k < 810 → μ 0 k = nI (X k)
def FA (μ μ' : Ar) : Prop := ∀ k, k ≠ 0 → μ' k = μ k
def FS (σ σ' : Rg) : Prop := ∀ k, k ≠ 1 → σ' k = σ k
theorem FA.rf {μ : Ar} : FA μ μ := fun _ _ => rfl
theorem FA.tr {a b c : Ar} (h : FA a b) (h2 : FA b c) : FA a c := fun k hk => (h2 k hk).trans (h k hk)
theorem FS.rf {μ : Rg} : FS μ μ := fun _ _ => rfl
theorem FS.tr {a b c : Rg} (h : FS a b) (h2 : FS b c) : FS a c := fun k hk => (h2 k hk).trans (h k hk)
theorem RM.set {μ : Ar} {X : Nat → Nat} (h : RM μ X) {k a : Nat} {v : Int32} (hv : v = nI a) : RM (updA μ 0 (upd (μ 0) k v)) (ux X k a) := fun j hj => by
  rw [ua_s]
  by_cases e : j = k
  · subst e; rw [up_s, ux_s, hv]
  · rw [up_n e, ux_n e, h j hj]
theorem FA.set {μ : Ar} {f : Nat → Int32} : FA μ (updA μ 0 f) := fun k hk => ua_n hk
def bt (X : Nat → Nat) (s p : Nat) : Nat := X (42 + 128 * s + p)
/-- sector s is X's, and the size -/
def RT (μ : Ar) (X : Nat → Nat) (s : Nat) : Prop := μ 0 1 = nI (X 1) ∧ ∀ p, p < 128 → μ 0 (42 + 128 * s + p) = nI (bt X s p)
theorem RM.rt {μ : Ar} {X : Nat → Nat} {s : Nat} (h : RM μ X) (hs : s < 6) : RT μ X s := ⟨h 1 (by omega), fun p hp => h _ (by omega)⟩
/-- the bounds that hold of X at every moment; N: what ERASES are at most -/
def XB (N : Nat) (X : Nat → Nat) : Prop := 2 ≤ X 0 ∧ X 0 ≤ 6 ∧ 32 ≤ X 1 ∧ X 1 ≤ 128 ∧ X 2 ≤ 1 ∧ X 4 ≤ 9999 ∧ X 5 ≤ 255 ∧ X 10 ≤ 1 ∧ (∀ q, 42 ≤ q → q < 810 → X q ≤ 255) ∧ ∀ q, 36 ≤ q → q < 42 → X q ≤ N
theorem XB.b {N : Nat} {X : Nat → Nat} (h : XB N X) {s p : Nat} (hs : s < 6) (hp : p < 128) : bt X s p ≤ 255 := h.2.2.2.2.2.2.2.2.1 _ (by omega) (by omega)
theorem XB.mono {N M : Nat} {X : Nat → Nat} (h : XB N X) (hm : N ≤ M) : XB M X := ⟨h.1, h.2.1, h.2.2.1, h.2.2.2.1, h.2.2.2.2.1, h.2.2.2.2.2.1, h.2.2.2.2.2.2.1, h.2.2.2.2.2.2.2.1, h.2.2.2.2.2.2.2.2.1, fun q h1 h2 => Nat.le_trans (h.2.2.2.2.2.2.2.2.2 q h1 h2) hm⟩
theorem XB.of {N : Nat} {X Y : Nat → Nat} (h : XB N X) (h1 : ∀ q, q < 42 → Y q = X q) (h2 : ∀ q, 42 ≤ q → q < 810 → Y q ≤ 255) : XB N Y := by
  obtain ⟨a, b, c, d, e, f, g, i, j, k⟩ := h
  exact ⟨by rw [h1 _ (by omega)]; exact a, by rw [h1 _ (by omega)]; exact b, by rw [h1 _ (by omega)]; exact c, by rw [h1 _ (by omega)]; exact d, by rw [h1 _ (by omega)]; exact e, by rw [h1 _ (by omega)]; exact f, by rw [h1 _ (by omega)]; exact g, by rw [h1 _ (by omega)]; exact i, h2, fun q h3 h4 => by rw [h1 _ (by omega)]; exact k q h3 h4⟩
/-- a doing is counted; power may go -/
def goX (X : Nat → Nat) : Nat → Nat := if X 4 = 0 then ux X 8 (X 8 + 1) else if X 4 = 1 then ux (ux (ux (ux (ux X 8 (X 8 + 1)) 4 0) 6 (X 6 + 1)) 2 0) 10 0 else ux (ux X 8 (X 8 + 1)) 4 (X 4 - 1)
theorem goX_far {X : Nat → Nat} {q : Nat} (h8 : q ≠ 8) (h4 : q ≠ 4) (h6 : q ≠ 6) (h2 : q ≠ 2) (h10 : q ≠ 10) : goX X q = X q := by
  unfold goX
  split
  · rw [ux_n h8]
  · split
    · rw [ux_n h10, ux_n h2, ux_n h6, ux_n h4, ux_n h8]
    · rw [ux_n h4, ux_n h8]
theorem goX_4 {X : Nat → Nat} : goX X 4 = X 4 - 1 := by
  unfold goX
  split
  · rw [ux_n (by omega)]; omega
  · split
    · rw [ux_n (by omega), ux_n (by omega), ux_n (by omega), ux_s]; omega
    · rw [ux_s]
theorem goX_2 {X : Nat → Nat} : goX X 2 = if X 4 = 1 then 0 else X 2 := by
  unfold goX
  split
  · rw [ux_n (by omega), if_neg (by omega)]
  · split
    · rw [ux_n (by omega), ux_s]
    · rw [ux_n (by omega), ux_n (by omega)]
theorem goX_10 {X : Nat → Nat} : goX X 10 = if X 4 = 1 then 0 else X 10 := by
  unfold goX
  split
  · rw [ux_n (by omega), if_neg (by omega)]
  · split
    · rw [ux_s]
    · rw [ux_n (by omega), ux_n (by omega)]
theorem goX_XB {N : Nat} {X : Nat → Nat} (h : XB N X) : XB N (goX X) := by
  obtain ⟨a, b, c, d, e, f, g, i, j, k⟩ := h
  refine ⟨?_, ?_, ?_, ?_, ?_, ?_, ?_, ?_, fun q h1 h2 => ?_, fun q h1 h2 => ?_⟩
  · rw [goX_far] <;> omega
  · rw [goX_far] <;> omega
  · rw [goX_far] <;> omega
  · rw [goX_far] <;> omega
  · rw [goX_2]; split <;> omega
  · rw [goX_4]; omega
  · rw [goX_far] <;> omega
  · rw [goX_10]; split <;> omega
  · rw [goX_far (by omega) (by omega) (by omega) (by omega) (by omega)]; exact j q h1 h2
  · rw [goX_far (by omega) (by omega) (by omega) (by omega) (by omega)]; exact k q h1 h2
abbrev Zt : Type := (Nat → Nat) × Bool
/-- a WRITE -/
def wr (s p v : Nat) (Z : Zt) : Zt := if Z.2 = true then Z else (ux (goX (ux Z.1 9 (Z.1 9 + 1))) (42 + 128 * s + p) (bt Z.1 s p &&& (if Z.1 4 = 1 then v ||| (255 ^^^ Z.1 5) else v)), decide (Z.1 4 = 1))
/-- an ERASE -/
def erm (X : Nat → Nat) : Nat := if X 4 = 1 then X 1 / 2 else X 1
def er (s : Nat) (Z : Zt) : Zt := if Z.2 = true then Z else ((fun q => if 42 + 128 * s ≤ q ∧ q < 42 + 128 * s + erm Z.1 then 255 else goX (ux Z.1 (36 + s) (Z.1 (36 + s) + 1)) q), decide (Z.1 4 = 1))
def RW (σ : Rg) (μ : Ar) (Z : Zt) : Prop := RM μ Z.1 ∧ σ 1 = (if Z.2 = true then 1 else 0)
theorem bt_ux {X : Nat → Nat} {k v s p : Nat} (h : 42 + 128 * s + p ≠ k) : bt (ux X k v) s p = bt X s p := ux_n h
theorem wr_XB {N s p v : Nat} {Z : Zt} (h : XB N Z.1) : XB N (wr s p v Z).1 := by
  unfold wr
  split
  · exact h
  · have h9 : XB N (ux Z.1 9 (Z.1 9 + 1)) := by
      obtain ⟨a, b, c, d, e, f, g, i, j, k⟩ := h
      exact ⟨by rw [ux_n (by omega)]; exact a, by rw [ux_n (by omega)]; exact b, by rw [ux_n (by omega)]; exact c, by rw [ux_n (by omega)]; exact d, by rw [ux_n (by omega)]; exact e, by rw [ux_n (by omega)]; exact f, by rw [ux_n (by omega)]; exact g, by rw [ux_n (by omega)]; exact i, fun q h1 h2 => by rw [ux_n (by omega)]; exact j q h1 h2, fun q h1 h2 => by rw [ux_n (by omega)]; exact k q h1 h2⟩
    refine XB.of (goX_XB h9) (fun q hq => ux_n (by omega)) (fun q h1 h2 => ?_)
    dsimp only
    by_cases hq : q = 42 + 128 * s + p
    · subst hq
      rw [ux_s]
      exact Nat.le_trans Nat.and_le_left (h.2.2.2.2.2.2.2.2.1 _ h1 h2)
    · rw [ux_n hq]; exact (goX_XB h9).2.2.2.2.2.2.2.2.1 q h1 h2
theorem er_XB {N s : Nat} {Z : Zt} (h : XB N Z.1) (hs : s < 6) : XB (N + 1) (er s Z).1 := by
  unfold er
  split
  · exact h.mono (by omega)
  · have h9 : XB (N + 1) (ux Z.1 (36 + s) (Z.1 (36 + s) + 1)) := by
      obtain ⟨a, b, c, d, e, f, g, i, j, k⟩ := h
      refine ⟨by rw [ux_n (by omega)]; exact a, by rw [ux_n (by omega)]; exact b, by rw [ux_n (by omega)]; exact c, by rw [ux_n (by omega)]; exact d, by rw [ux_n (by omega)]; exact e, by rw [ux_n (by omega)]; exact f, by rw [ux_n (by omega)]; exact g, by rw [ux_n (by omega)]; exact i, fun q h1 h2 => by rw [ux_n (by omega)]; exact j q h1 h2, fun q h1 h2 => ?_⟩
      by_cases hq : q = 36 + s
      · subst hq; rw [ux_s]; have := k (36 + s) h1 h2; omega
      · rw [ux_n hq]; have := k q h1 h2; omega
    refine XB.of (goX_XB h9) (fun q hq => if_neg (by omega)) (fun q h1 h2 => ?_)
    dsimp only
    split
    · omega
    · exact (goX_XB h9).2.2.2.2.2.2.2.2.1 q h1 h2
