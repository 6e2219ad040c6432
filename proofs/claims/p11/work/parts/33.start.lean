theorem inX {cy : ClassId} {A : Nat → Prop} {h0 : Nat} {Aa Ab : Nat → Nat} {σa σb : Rg} {μa μb : Ar} {x : va_E} (hD : va_D A (((h0, x) :: wS Aa cy σa μa) ++ wS Ab cy σb μb)) {q : Nat} (hq : AX Aa Ab q) : A q := by
  rcases hq with ⟨k, hk, rfl⟩ | ⟨k, hk, rfl⟩
  · obtain ⟨y, hy⟩ := getOf (rS (Ad := Aa) (cy := cy) (σ := σa) (μ := μa)) hk
    exact hD.2 (k + 1) (Aa k, y) (by
      rw [List.getElem?_append_left (by rw [List.length_cons]; have : (wS Aa cy σa μa).length = 18 := rfl; omega), List.getElem?_cons_succ]
      exact hy)
  · obtain ⟨y, hy⟩ := getOf (rS (Ad := Ab) (cy := cy) (σ := σb) (μ := μb)) hk
    exact hD.2 (k + 19) (Ab k, y) (by
      rw [List.getElem?_append_right (by rw [List.length_cons]; have : (wS Aa cy σa μa).length = 18 := rfl; omega)]
      rw [show k + 19 - ((h0, x) :: wS Aa cy σa μa).length = k by rw [List.length_cons]; have : (wS Aa cy σa μa).length = 18 := rfl; omega]
      exact hy)
theorem ltX {D : va_G} {cy : ClassId} {H : Heap} {Aa Ab : Nat → Nat} {σa σb : Rg} {μa μb : Ar} (ha : va_P D vwCl (wS Aa cy σa μa) H) (hb : va_P D vwCl (wS Ab cy σb μb) H) {q : Nat} (hq : AX Aa Ab q) : q < H.size := by
  rcases hq with ⟨k, hk, rfl⟩ | ⟨k, hk, rfl⟩
  · obtain ⟨y, hy⟩ := getOf (rS (Ad := Aa) (cy := cy) (σ := σa) (μ := μa)) hk
    exact (ha k _ hy).lt
  · obtain ⟨y, hy⟩ := getOf (rS (Ad := Ab) (cy := cy) (σ := σb) (μ := μb)) hk
    exact (hb k _ hy).lt
theorem geI {h0 sz lo q : Nat} {x : va_E} (h1 : lo ≤ h0) (h2 : lo ≤ sz) (h : va_A [(h0, x)] sz q) : lo ≤ q := by
  rcases h with ⟨k, e, hk⟩ | h
  · have hz : k < 1 := (List.getElem?_eq_some_iff.mp hk).1
    rw [show k = 0 by omega] at hk
    cases hk
    exact h1
  · omega
theorem va_newX {p : Program} {l : Launch} {e : Env} {R : Room} {s : State} {m : MethodId} {args : Array Value} {below : List Frame} {meth : Method} {c : Code} {H : Heap} {locs : List Loc} {cells slots : Nat} {Q : State → Prop} {own : String} {nL : Nat} {ret : Option FieldType} {cc : ByteArray} {pc : Nat} {ls : Array Slot} {rest : List Value} {D : va_G} {H0 : Heap} {A : Nat → Prop} {tys : List (ClassId × FieldType)} {C : String} {T : u_T} {N ci index : Nat}
    (CC : Cx p s m args meth c own cc nL ret D tys) (hin : ∀ w ∈ u_ws C T N, w ∈ gw) (ty : Nat → FieldType) (hty : ∀ k, k < N → parseFieldDescriptor (T k).2.2.1 = some (ty k)) (hcl : (Cond.classLink own index C).before args s = true) (hinst : (Cond.instantiable C N).before args s = true) (hini : (Cond.initialized C).before args s = true)
    (hS : va_S A H0 H locs) (hA : ∀ q, H0.size ≤ q → A q) (hc : vwCl[ci]? = some (C, T, N)) {fs : List Value} (hfs : ∀ j, j < N → defaultValue (ty j) = vp_V fs j) (hcells : cells + 1 ≤ R.cells) (hslots : slots + N ≤ R.slots) (hdg : decode cc pc = .ok (.new index, 3))
    (kk : ∀ (q : Nat) (H1 : Heap), va_P D vwCl [(q, .inr (ci, fs))] H1 → H.size ≤ q ∧ H.size ≤ H1.size → (∀ x : Nat, x < H.size → H1[x]? = H[x]?) → va_S A H0 H1 locs →
      W p l e R s m args below meth c H1 locs (cells + 1) (slots + N) Q (F0 m (pc + 3) ls (.ref q :: rest))) : W p l e R s m args below meth c H locs cells slots Q (F0 m pc ls rest) := by
  have hKn := CC.2.2.2.2.2.2.2.1.1 ci _ hc
  refine W.newcK CC.1 CC.2.1 CC.2.2.2.1 hcl hinst hini rfl hdg hcells hslots hKn.2.1 rfl fun H1 kC hkC e1 z1 o1 => ?_
  refine kk H.size H1 (fun k x hx => ?_) ⟨Nat.le_refl _, by omega⟩ o1 ⟨Nat.le_trans hS.1 (by omega), fun x h1 h2 => (o1 x (Nat.lt_of_lt_of_le h1 hS.1)).trans (hS.2.1 x h1 h2), hS.2.2⟩
  have hz : k < 1 := (List.getElem?_eq_some_iff.mp hx).1
  rw [show k = 0 by omega] at hx
  cases hx
  exact ⟨_, hc, (u_born ty CC.2.2.2.2.2.2.1 hin hKn hkC e1 hty).to hfs⟩
def wl_L_law (xs : Nat → Int32) (L : Nat) (n : Nat) : Rg → Ar → Rg → Ar → Rg → Ar → (Nat → Int64) → Int32 → Prop := Nat.rec (motive := fun _ => Rg → Ar → Rg → Ar → Rg → Ar → (Nat → Int64) → Int32 → Prop) (fun _ _ _ _ _ _ _ _ => False) (fun _ k => wb_L_law_23 xs L k) n
/-- the law's wp: what is to be shown of numbers alone -/
def wp_law (L : Nat) (xs : Nat → Int32) : Prop := wp_X5_init (fun σa μa σb μb => wp_X6_init (fun τ ν => ∃ n, n ≤ 1000 ∧ wl_L_law xs L n σa μa σb μb τ ν (fun _ => 0) 0))
set_option maxHeartbeats 4000000 in
theorem wkl_L_law {p : Program} {l : Launch} {e : Env} {s : State} {m : MethodId} {below : List Frame} {meth : Method} {c : Code} {D : va_G} {cy cl : ClassId} {x0 o b L sa : Nat} {Aa Ab Am : Nat → Nat} {xs : Nat → Int32} (C : Cx p (s.setDrawn s.drawn) m #[Value.ref b] meth c RL cL_law 7 (some FieldType.boolean) D [(cy, .int), (cl, .long)]) (hlt : l.stackTraces = false) (G : LG s b L xs x0 o Aa Ab Am) (hE : EX (fun q : Nat => s.heap.size ≤ q) sa s s.heap) : ∀ (n c0 s0 : Nat), c0 + n ≤ 1071 → s0 + 6 * n ≤ 12584 → ∀ {σa : Rg} {μa : Ar} {σb : Rg} {μb : Ar} {τ : Rg} {ν : Ar} {f : Nat → Int64} {v4 : Int32} {H : Heap} {locs : List Loc} {ls : Array Slot} (h : wl_L_law xs L n σa μa σb μb τ ν f v4) (hPa : va_P D vwCl (wS Aa cy σa μa) H) (hPb : va_P D vwCl (wS Ab cy σb μb) H) (hPx : va_P D vwCl (wX x0 Aa Ab) H) (hPm : va_P D vwCl (wM Am cy τ ν) H) (hPo : va_P D vwCl (wO o cl f) H) (hS : va_S (fun q : Nat => s.heap.size ≤ q) s.heap H locs) (hl : lv_has ls 7 [(0, .ref b), (1, .ref x0), (2, .ref (Am 0)), (3, .ref o), (4, .int v4)]), W p l e room_1 (s.setDrawn s.drawn) m #[Value.ref b] below meth c H locs c0 s0 (lw_Z below #[Value.ref b] s) (F0 m 23 ls []) := by
  intro n
  induction n with
  | zero => intro c0 s0 _ _ σa μa σb μb τ ν f v4 H locs ls h; exact h.elim
  | succ n ih =>
    intro c0 s0 h1 h2 σa μa σb μb τ ν f v4 H locs ls h hPa hPb hPx hPm hPo hS hl
    exact wk_L_law_23 C hlt G hE (c1 := c0 + 1) (s1 := s0 + 6) ⟨by omega, by omega⟩ ⟨by omega, by omega⟩ ⟨Nat.le_refl _, Nat.le_refl _, by omega, by omega⟩ (fun h hPa hPb hPx hPm hPo hS hl => ih (c0 + 1) (s0 + 6) (by omega) (by omega) h hPa hPb hPx hPm hPo hS hl) h hPa hPb hPx hPm hPo hS hl
theorem arrK {s : State} {ty : FieldType} {cA : ClassId} {kA : Class} {comp : ClassId} (h2 : s.vm.classes[cA]? = some kA) (h3 : kA.kind = .array comp ty) : ArrOfT s cA ty := fun n z => ⟨fun k h => (by cases h), kA, h2, comp, h3⟩
set_option maxHeartbeats 8000000 in
set_option maxRecDepth 100000 in
theorem law_walk {p : Program} {e : Env} {s : State} {m : MethodId} {below : List Frame} {meth : Method} {c : Code} (l : Launch) (hflags : l.flags = flags0) {b L : Nat} {xs : Nat → Int32} (C0 : lw_At p s m meth c b L xs) (h : wp_law L xs) : W p l e room_1 s m #[Value.ref b] below meth c s.heap [] 0 0 (lw_Z below #[Value.ref b] s) (entryFrame m ([Value.ref b] : List Value).toArray 7) := by
  obtain ⟨hx, hb, hr, hml, hown, hts0, hX, hbl, hlocks, hgv⟩ := C0
  have hlt : l.stackTraces = false := by unfold Launch.stackTraces; rw [hflags]; decide
  have hgw : ∀ w ∈ gw, w.before #[Value.ref b] s = true := fun w h => hts0 w (List.mem_filter.mp h).1
  obtain ⟨c0, i0, k0⟩ := u_known (C := RX0) (T := TX0) (N := 5) (n := 5) hgw inG0 (hgw _ wq_255)
  obtain ⟨c1, i1, k1⟩ := u_known (C := RX1) (T := TX1) (N := 10) (n := 10) hgw inG1 (hgw _ wq_163)
  obtain ⟨c2, i2, k2⟩ := u_known (C := RX2) (T := TX2) (N := 3) (n := 3) hgw inG2 (hgw _ wq_284)
  obtain ⟨c3, i3, k3⟩ := u_known (C := RX3) (T := TX3) (N := 11) (n := 11) hgw inG3 (hgw _ wq_211)
  obtain ⟨c4, i4, k4⟩ := u_known (C := RX4) (T := TX4) (N := 7) (n := 7) hgw inG4 (hgw _ wq_157)
  obtain ⟨c5, i5, k5⟩ := u_known (C := RX5) (T := TX5) (N := 2) (n := 2) hgw inG5 (hgw _ wq_149)
  obtain ⟨c6, i6, k6⟩ := u_known (C := RX6) (T := TX6) (N := 15) (n := 15) hgw inG6 (hgw _ wq_915)
  obtain ⟨dC, dI, hKc⟩ : ∃ (dC : Nat → ClassId) (dI : Nat → Nat → Nat), ∀ (k : Nat) (q : vw_C), vwCl[k]? = some q → u_Kn s q.1 q.2.1 q.2.2 (dC k) (dI k) := by
    refine ⟨fun k => if k = 0 then c0 else if k = 1 then c1 else if k = 2 then c2 else if k = 3 then c3 else if k = 4 then c4 else if k = 5 then c5 else c6, fun k => if k = 0 then i0 else if k = 1 then i1 else if k = 2 then i2 else if k = 3 then i3 else if k = 4 then i4 else if k = 5 then i5 else i6, ?_⟩
    intro k q hq
    match k, hq with
    | 0, hq => cases hq; exact k0
    | 1, hq => cases hq; exact k1
    | 2, hq => cases hq; exact k2
    | 3, hq => cases hq; exact k3
    | 4, hq => cases hq; exact k4
    | 5, hq => cases hq; exact k5
    | 6, hq => cases hq; exact k6
    | k + 7, hq => simp [vwCl] at hq
  obtain ⟨cy, kA, comp, a1, a2, a3⟩ := Cond.arrayClass_spec (hgw _ wq_209)
  obtain ⟨cl, kL, compL, b1, b2, b3⟩ := Cond.arrayClass_spec (hgw _ wq_1304)
  have hK : va_K (dC, dI) vwCl [(cy, .int), (cl, .long)] s := ⟨hKc, fun k q h => by
    match k, h with
    | 0, h => cases h; exact ⟨arrK a2 a3, a1⟩
    | 1, h => cases h; exact ⟨arrK b2 b3, b1⟩
    | k + 2, h => simp at h⟩
  obtain ⟨D, hDe⟩ : ∃ D : va_G, D = (dC, dI) := ⟨_, rfl⟩
  rw [← hDe] at hK
  have C : Cx p (s.setDrawn s.drawn) m #[Value.ref b] meth c RL cL_law 7 (some FieldType.boolean) D [(cy, .int), (cl, .long)] := ⟨hx, hb, hml, hown, hr, hlocks, dr_words hgw _, hK, NW.of (dr_words hts0 _)⟩
  have hs := flat_of_before _ hgv
  obtain ⟨sa, _, _, _, q1, -⟩ := Cond.exactly_spec (hs (.exactly (.string "SettingStore" 118) "java/lang/String") (by decide +kernel))
  have hA0 : ∀ a : Nat, a < s.heap.size → ¬ (fun q : Nat => s.heap.size ≤ q) a := fun a h => Nat.not_le.mpr h
  have hE : EX (fun q : Nat => s.heap.size ≤ q) sa s s.heap := ⟨XW.of hts0, vk_R.of (hts0 _ (List.mem_of_getElem? (i := 887) (by decide +kernel))) q1, vx_Zqof (hts0 _ (List.mem_of_getElem? (i := 875) (by decide +kernel))) (hgw _ wq_141) (hs _ (by decide +kernel)) hA0, vx_Zqof (hts0 _ (List.mem_of_getElem? (i := 877) (by decide +kernel))) (hgw _ wq_141) (hs _ (by decide +kernel)) hA0⟩
  have hA : ∀ q : Nat, s.heap.size ≤ q → (fun q : Nat => s.heap.size ≤ q) q := fun _ h => h
  have hbA : ¬ (fun q : Nat => s.heap.size ≤ q) b := Nat.not_le.mpr hbl
  have hS : va_S (fun q : Nat => s.heap.size ≤ q) s.heap s.heap [] := va_S.rf
  have hP : va_P D vwCl [] s.heap := fun k q h => by simp at h
  have hD : va_D (fun q : Nat => s.heap.size ≤ q) [] := ⟨fun i j p q h => by simp at h, fun k q h => by simp at h⟩
  refine W.base ?_
  have hl := lv_entry ([.ref b]) (n := 7) (Nat.le_of_ble_eq_true rfl)
  rw [lg_entry_eq]
  generalize (lg_sl ([.ref b]) ++ List.replicate (7 - (lg_sl ([.ref b])).length) Slot.unset).toArray = ls at hl ⊢
  have hl : lv_has ls 7 [(0, .ref b)] := hl
  -- new SettingStore()
  refine va_new (ci := 5) (fs := [.null, .null]) (C := RX5) (T := TX5) (N := 2) C.1 C.2.1 C.2.2.2.2.2.2.1 inG5 tyX5 tyX5_ok C.2.2.2.1 (C.2.2.2.2.2.2.1 _ wq_148) (C.2.2.2.2.2.2.1 _ wq_149) (C.2.2.2.2.2.2.1 _ wq_130) C.2.2.2.2.2.2.2.1 hP hD hS hA rfl (fun j hj => by rcases (show j = 0 ∨ j = 1 by omega) with rfl | rfl <;> rfl) (Nat.le_of_ble_eq_true rfl) (Nat.le_of_ble_eq_true rfl) dL_law_0 (fun x0 H hP hD hS => ?_)
  have hP : va_P D vwCl [(x0, .inr (5, [.null, .null]))] H := hP
  have hD : va_D (fun q : Nat => s.heap.size ≤ q) [(x0, .inr (5, [.null, .null]))] := hD
  refine lv_dup hx hb dL_law_3 rfl ?_
  have hFc := va_free (wc := [(x0, .inr (5, [.null, .null]))]) hD hS hA [0] rfl
  refine va_callv (va_runI (As := []) (rest := [.ref x0]) (Ts := gw) ⟨hx, hb, C.2.2.1, C.2.2.2.1, C.2.2.2.2.2.2.1⟩ (ci_X5_init l D cy x0 H.size h) ⟨callB_of 0 C.2.2.2.2.2.2.1 (gwGood wq_152) rfl rfl rfl (C.2.2.2.2.2.2.1 _ wq_130) (C.2.2.2.2.2.2.1 _ wq_150) (by decide +kernel) ⟨Nat.le_of_ble_eq_true rfl, Nat.le_of_ble_eq_true rfl⟩, rfl, C.2.2.2.2.2.2.1 _ wq_151⟩ ⟨blindI, preI C hP⟩ rfl rfl hl.1 rfl (lv_room (Nat.le_of_ble_eq_true rfl)) dL_law_4 ⟨Nat.le_of_ble_eq_true rfl, Nat.le_of_ble_eq_true rfl⟩) hS (fun q _ h => hFc q h) hFc (fun u t H1 locs ht hvm hw hB hz1 hk1 hS => ?_)
  obtain ⟨Aa, Ab, σa, μa, σb, μb⟩ := u
  obtain ⟨h, hap⟩ := hw
  obtain ⟨⟨hPa, hPb, hPx⟩, hD1⟩ := hB
  dsimp only at h hap hPa hPb hPx hD1
  rw [ht] at hPa hPb hPx
  have gX : ∀ q, AX Aa Ab q → s.heap.size ≤ q := fun q hq => hFc q (inX hD1 hq)
  have gx0 : s.heap.size ≤ x0 := hD.2 0 _ rfl
  have sX : ∀ q, AX Aa Ab q → q < H1.size := fun q hq => ltX hPa hPb hq
  have sx0 : x0 < H1.size := (hPx 0 _ rfl).lt
  refine lv_astore_n (lv' := [(1, .ref x0), (0, .ref b)]) hx hb dL_law_7 rfl hl (by decide) rfl (fun ls hl => ?_)
  -- new SettingStoreModel()
  have hP : va_P D vwCl [] H1 := fun k q h => by simp at h
  have hD : va_D (fun q : Nat => H1.size ≤ q) [] := ⟨fun i j p q h => by simp at h, fun k q h => by simp at h⟩
  have hS9 : va_S (fun q : Nat => s.heap.size ≤ q) s.heap H1 locs := hS
  refine va_newX (ci := 6) (fs := [.null, .null, .int 0, .int 0, .int 0, .int 0, .int 0, .null, .null, .null, .null, .null, .int 0, .int 0, .int 0]) (C := RX6) (T := TX6) (N := 15) C inG6 tyX6 tyX6_ok (C.2.2.2.2.2.2.1 _ wq_914) (C.2.2.2.2.2.2.1 _ wq_915) (C.2.2.2.2.2.2.1 _ wq_137) hS hA rfl (fun j hj => by rcases (show j = 0 ∨ j = 1 ∨ j = 2 ∨ j = 3 ∨ j = 4 ∨ j = 5 ∨ j = 6 ∨ j = 7 ∨ j = 8 ∨ j = 9 ∨ j = 10 ∨ j = 11 ∨ j = 12 ∨ j = 13 ∨ j = 14 by omega) with rfl | rfl | rfl | rfl | rfl | rfl | rfl | rfl | rfl | rfl | rfl | rfl | rfl | rfl | rfl <;> rfl) (Nat.le_of_ble_eq_true rfl) (Nat.le_of_ble_eq_true rfl) dL_law_8 (fun q6 H2 hP2 hz2 hk2 hS => ?_)
  refine lv_dup hx hb dL_law_11 rfl ?_
  have hPa := hPa.kept (fun k q hk => hk2 q.1 (hPa k q hk).lt)
  have hPb := hPb.kept (fun k q hk => hk2 q.1 (hPb k q hk).lt)
  have hPx := hPx.kept (fun k q hk => hk2 q.1 (hPx k q hk).lt)
  refine va_callv (va_runI (As := []) (rest := [.ref q6]) (Ts := gw) ⟨hx, hb, C.2.2.1, C.2.2.2.1, C.2.2.2.2.2.2.1⟩ (ci_X6_init l D cy q6 H2.size h) ⟨callB_of 0 C.2.2.2.2.2.2.1 (gwGood wq_918) rfl rfl rfl (C.2.2.2.2.2.2.1 _ wq_137) (C.2.2.2.2.2.2.1 _ wq_916) (by decide +kernel) ⟨Nat.le_of_ble_eq_true rfl, Nat.le_of_ble_eq_true rfl⟩, rfl, C.2.2.2.2.2.2.1 _ wq_917⟩ ⟨blindI, preI C hP2⟩ rfl rfl hl.1 rfl (lv_room (Nat.le_of_ble_eq_true rfl)) dL_law_12 ⟨Nat.le_of_ble_eq_true rfl, Nat.le_of_ble_eq_true rfl⟩) hS (fun q _ h => ?_) (fun q h => ?_) (fun u t H3 locs ht hvm hw hB hz3 hk3 hS => ?_)
  · exact Nat.le_trans hS9.1 (geI hz2.1 (by omega) h)
  · exact Nat.le_trans hS9.1 (geI hz2.1 (by omega) h)
  obtain ⟨Am, τ, ν⟩ := u
  obtain ⟨h, e6, hapM⟩ := hw
  obtain ⟨hPm, hD3⟩ := hB
  dsimp only at h e6 hapM hPm hD3
  rw [ht] at hPm
  have gM : ∀ q, AS 8 Am q → H1.size ≤ q := fun q hq => geI hz2.1 (by omega) (inOf rM hD3 hq)
  have na : ∀ q : Nat, q < H1.size → ¬ va_A [(q6, .inr (6, [.null, .null, .int 0, .int 0, .int 0, .int 0, .int 0, .null, .null, .null, .null, .null, .int 0, .int 0, .int 0]))] H2.size q := fun q hq h => Nat.not_le.mpr hq (geI hz2.1 (by omega) h)
  have hPa := hPa.kept (fun k q hk => hk3 q.1 (hPa k q hk).lt (na _ (by rw [(rS.at hk).2]; exact sX _ (Or.inl ⟨k, (rS.at hk).1, rfl⟩))))
  have hPb := hPb.kept (fun k q hk => hk3 q.1 (hPb k q hk).lt (na _ (by rw [(rS.at hk).2]; exact sX _ (Or.inr ⟨k, (rS.at hk).1, rfl⟩))))
  have hPx := hPx.kept (fun k q hk => hk3 q.1 (hPx k q hk).lt (na _ (by rw [((rX (x0 := x0) (Aa := Aa) (Ab := Ab)).at hk).2]; exact sx0)))
  have sM : ∀ q, AS 8 Am q → q < H3.size := fun q ⟨k, hk, e⟩ => by
    obtain ⟨x, hx⟩ := getOf (rM (Ad := Am) (cy := cy) (σ := τ) (μ := ν)) hk
    rw [e]; exact (hPm k _ hx).lt
  rw [← e6]
  refine lv_astore_n (lv' := [(2, .ref (Am 0)), (1, .ref x0), (0, .ref b)]) hx hb dL_law_15 rfl hl (by decide) rfl (fun ls hl => ?_)
  -- the law's row
  refine lv_iconst (v := 1) hx hb dL_law_16 (by decide) ?_
  have hS10 := hS
  refine va_newaK (atype := .long) C.1 C.2.1 (C.2.2.2.2.2.2.1 _ wq_1304) (g := F0 m 17 ls [.int 1]) rfl dL_law_17 (n := 1) (N := 1) (rest := []) rfl (by decide) (by decide) (by decide) (Nat.le_of_ble_eq_true rfl) (Nat.le_of_ble_eq_true rfl) (h := H3.size) rfl (fun H4 cA e4 z4 o4 hAr hNm => ?_)
  have ecl : cA = cl := Option.some.inj (hNm.symm.trans b1)
  subst ecl
  have hPo : va_P D vwCl (wO H3.size cA (fun _ => 0)) H4 := by
    intro k q hk2
    have hz : k < 1 := (List.getElem?_eq_some_iff.mp hk2).1
    rw [show k = 0 by omega] at hk2
    cases hk2
    exact e4
  have hPa := hPa.kept (fun k q hk => o4 q.1 (hPa k q hk).lt)
  have hPb := hPb.kept (fun k q hk => o4 q.1 (hPb k q hk).lt)
  have hPx := hPx.kept (fun k q hk => o4 q.1 (hPx k q hk).lt)
  have hPm := hPm.kept (fun k q hk => o4 q.1 (hPm k q hk).lt)
  have hS : va_S (fun q : Nat => s.heap.size ≤ q) s.heap H4 locs := ⟨Nat.le_trans hS10.1 (by omega), fun q h1 h2 => (o4 q (Nat.lt_of_lt_of_le h1 hS10.1)).trans (hS10.2.1 q h1 h2), hS10.2.2⟩
  refine W.eq (g2 := F0 m 19 ls [.ref H3.size]) rfl ?_
  refine lv_astore_n (lv' := [(3, .ref H3.size), (2, .ref (Am 0)), (1, .ref x0), (0, .ref b)]) hx hb dL_law_19 rfl hl (by decide) rfl (fun ls hl => ?_)
  refine lv_iconst (v := 0) hx hb dL_law_20 (by decide) ?_
  refine lv_istore (lv' := [(4, .int 0), (3, .ref H3.size), (2, .ref (Am 0)), (1, .ref x0), (0, .ref b)]) hx hb dL_law_21 hl (by decide) rfl (fun ls hl => ?_)
  have h13 : H1.size ≤ H3.size := Nat.le_trans hz2.2 hz3
  have G : LG s b L xs x0 H3.size Aa Ab Am := ⟨hX, hbl, hap, hapM, fun k hk h => Nat.not_le.mpr (sX _ h) (gM _ ⟨k, hk, rfl⟩), fun k hk h => Nat.not_le.mpr (sX _ (Or.inl ⟨k, hk, rfl⟩)) (gM _ h), fun k hk h => Nat.not_le.mpr (sX _ (Or.inr ⟨k, hk, rfl⟩)) (gM _ h), fun h => Nat.not_le.mpr sx0 (gM _ h), fun h => Nat.not_le.mpr (sX _ h) h13, fun h => Nat.lt_irrefl _ (sM _ h), fun h => Nat.not_le.mpr sx0 (by rw [h]; exact h13), gX, fun q h => Nat.le_trans hS9.1 (gM q h), Nat.le_trans hS9.1 h13, gx0⟩
  obtain ⟨n, hn, h⟩ := h
  refine W.widen (k := 46) (n := 4386) (Nat.le_of_ble_eq_true rfl) (Nat.le_of_ble_eq_true rfl) ?_
  exact wkl_L_law C hlt G hE n 46 4386 (by omega) (by omega) h hPa hPb hPx hPm hPo hS (lv_sub hl [4, 3, 2, 1, 0] rfl)
