abbrev rmX5_chip : Room := { frames := 3, cells := 0, slots := 0, locals := 67 }
def wb_X5_chip_22 (Q : Int32 → Rg → Ar → Rg → Ar → Prop) (σa : Rg) (μa : Ar) (σb : Rg) (μb : Ar) : Prop := Q (0 : Int32) σa μa σb μb
set_option maxHeartbeats 4000000 in
set_option maxRecDepth 100000 in
theorem wk_X5_chip_22 {p : Program} {l : Launch} {e : Env} {s : State} {m : MethodId} {args : Array Value} {below : List Frame} {meth : Method} {c : Code} {D : va_G} {cy : ClassId} {x0 : Nat} {Aa Ab : Nat → Nat} (C : Cx p s m args meth c RX5 cX5_chip 3 (some FieldType.boolean) D [(cy, .int)]) (hap : apX x0 Aa Ab) {Q : Int32 → Rg → Ar → Rg → Ar → Prop} {σa : Rg} {μa : Ar} {σb : Rg} {μb : Ar}  {H : Heap} {locs : List Loc} {ls : Array Slot} (h : wb_X5_chip_22 Q σa μa σb μb) (hPa : va_P D vwCl (wS Aa cy σa μa) H) (hPb : va_P D vwCl (wS Ab cy σb μb) H) (hPx : va_P D vwCl (wX x0 Aa Ab) H) (hS : va_S (AX Aa Ab) s.heap H locs) (hl : lv_has ls 3 []) : W p l e rmX5_chip s m args below meth c H locs 0 0 (MQ below (Qcg (PXi x0 Aa Ab cy D Q) (AX Aa Ab)) args s 0 0 (AX Aa Ab)) (F0 m 22 ls []) := by
  have hx := C.1
  have hb := C.2.1
  refine lv_iconst (v := 0) hx hb dX5_chip_22 (by decide) ?_
  exact endZ C hS bz0 ⟨_, _, _, _, _, rfl, h, hPa, hPb, hPx⟩ dX5_chip_23
def wp_X5_chip (σa : Rg) (μa : Ar) (σb : Rg) (μb : Ar) (x1 : Int32) (x2 : Int32) (Q : Int32 → Rg → Ar → Rg → Ar → Prop) : Prop := wp_X5_within x1 (2 : Int32) (6 : Int32) (fun r4 => ((r4 = 0 → wb_X5_chip_22 Q σa μa σb μb) ∧ (¬ r4 = 0 → wp_X5_within x2 (32 : Int32) (128 : Int32) (fun r16 => ((¬ r16 = 0 → wp_X4_renew σa μa x1 x2 (fun σa30 μa30 => Q (1 : Int32) σa30 μa30 σb μb)) ∧ (r16 = 0 → wb_X5_chip_22 Q σa μa σb μb))))))
set_option maxHeartbeats 4000000 in
set_option maxRecDepth 100000 in
theorem ct_X5_chip (l : Launch) (D : va_G) (cy : ClassId) (x0 : Nat) (Aa Ab : Nat → Nat) (hap : apX x0 Aa Ab) {σa : Rg} {μa : Ar} {σb : Rg} {μb : Ar} {x1 : Int32} {x2 : Int32} {Q : Int32 → Rg → Ar → Rg → Ar → Prop} (h : wp_X5_chip σa μa σb μb x1 x2 Q) : Ct l yX5_chip cX5_chip 3 (some FieldType.boolean) rmX5_chip D [(cy, .int)] (fun H => va_P D vwCl (wS Aa cy σa μa) H ∧ va_P D vwCl (wS Ab cy σb μb) H ∧ va_P D vwCl (wX x0 Aa Ab) H) [.ref x0, .int x1, .int x2] (AX Aa Ab) (PXi x0 Aa Ab cy D Q) := by
  refine Ct.of (by decide) (Nat.le_of_ble_eq_true rfl) ?_
  intro p e s m below meth c ls C hP hl
  obtain ⟨hPa, hPb, hPx⟩ := hP
  have hl : lv_has ls 3 [(0, .ref x0), (1, .int x1), (2, .int x2)] := hl
  have hS : va_S (AX Aa Ab) s.heap s.heap [] := va_S.rf
  have hx := C.1
  have hb := C.2.1
  refine lv_iload_n hx hb dX5_chip_0 rfl (lv_at hl 1 rfl) ?_
  refine lv_iconst (v := 2) hx hb dX5_chip_1 (by decide) ?_
  refine lv_bipush (v := 6) hx hb dX5_chip_2 (by decide) ?_
  refine kNi (rnS (C.none) (ct_X5_within l D h) ys_X5_within wq_347 ⟨rfl, rfl⟩ ⟨Nat.le_of_ble_eq_true rfl, Nat.le_of_ble_eq_true rfl⟩ ⟨Nat.zero_le _, Nat.zero_le _⟩ trivial hl.1 rfl rfl (Nat.le_of_ble_eq_true rfl) dX5_chip_4) hS (fun _ h => h.elim) (fun r4 H locs h hk hS => ?_)
  have hPa := keepN hPa hk
  have hPb := keepN hPb hk
  have hPx := keepN hPx hk
  refine lv_if_eq (tgt := 22) hx hb dX5_chip_7 (by decide) (fun hc => ?_) (fun hc => ?_)
  · have h := h.1 hc
    exact wk_X5_chip_22 C hap h hPa hPb hPx hS (lv_sub hl [] rfl)
  · have h := h.2 hc
    refine lv_iload_n hx hb dX5_chip_10 rfl (lv_at hl 2 rfl) ?_
    refine lv_bipush (v := 32) hx hb dX5_chip_11 (by decide) ?_
    refine lv_sipush (v := 128) hx hb dX5_chip_13 (by decide) ?_
    refine kNi (rnS (C.none) (ct_X5_within l D h) ys_X5_within wq_347 ⟨rfl, rfl⟩ ⟨Nat.le_of_ble_eq_true rfl, Nat.le_of_ble_eq_true rfl⟩ ⟨Nat.zero_le _, Nat.zero_le _⟩ trivial hl.1 rfl rfl (Nat.le_of_ble_eq_true rfl) dX5_chip_16) hS (fun _ h => h.elim) (fun r16 H locs h hk hS => ?_)
    have hPa := keepN hPa hk
    have hPb := keepN hPb hk
    have hPx := keepN hPx hk
    refine lv_if_ne (tgt := 24) hx hb dX5_chip_19 (by decide) (fun hc => ?_) (fun hc => ?_)
    · have h := h.1 hc
      refine lv_aload_n hx hb dX5_chip_24 rfl (lv_at hl 0 rfl) ?_
      refine gX_store C hPx (C.2.2.2.2.2.2.1 _ wq_336) dX5_chip_25 ?_
      refine lv_iload_n hx hb dX5_chip_28 rfl (lv_at hl 1 rfl) ?_
      refine lv_iload_n hx hb dX5_chip_29 rfl (lv_at hl 2 rfl) ?_
      refine kWv (rnVN C (ct_X4_renew l D cy Aa hap.1 h) yv_X4_renew wn_350 ⟨rfl, rfl⟩ ⟨Nat.le_of_ble_eq_true rfl, Nat.le_of_ble_eq_true rfl⟩ ⟨Nat.zero_le _, Nat.zero_le _⟩ (vS_store C hPa) hPa hl.1 rfl rfl (Nat.le_of_ble_eq_true rfl) dX5_chip_30) hS (fun _ h => Or.inl h) (fun σa30 μa30 H locs h hPa hk hS => ?_)
      have hPb := keepW rS hap.2.2.1 hPb hk
      have hPx := keepW (rX (x0 := x0) (Aa := Aa) (Ab := Ab)) (fun _ _ => hap.2.2.2.2.1) hPx hk
      refine lv_iconst (v := 1) hx hb dX5_chip_33 (by decide) ?_
      exact endZ C hS bz1 ⟨_, _, _, _, _, rfl, h, hPa, hPb, hPx⟩ dX5_chip_34
    · have h := h.2 hc
      exact wk_X5_chip_22 C hap h hPa hPb hPx hS (lv_sub hl [] rfl)
abbrev rmX5_on : Room := { frames := 6, cells := 0, slots := 0, locals := 138 }
def wb_X5_on_21 (Q : Int32 → Rg → Ar → Rg → Ar → Prop) (σa : Rg) (μa : Ar) (σb : Rg) (μb : Ar) (t0 : Int32) : Prop := Q t0 σa μa σb μb
set_option maxHeartbeats 4000000 in
set_option maxRecDepth 100000 in
theorem wk_X5_on_21 {p : Program} {l : Launch} {e : Env} {s : State} {m : MethodId} {args : Array Value} {below : List Frame} {meth : Method} {c : Code} {D : va_G} {cy : ClassId} {x0 : Nat} {Aa Ab : Nat → Nat} (C : Cx p s m args meth c RX5 cX5_on 1 (some FieldType.int) D [(cy, .int)]) (hap : apX x0 Aa Ab) {Q : Int32 → Rg → Ar → Rg → Ar → Prop} {σa : Rg} {μa : Ar} {σb : Rg} {μb : Ar} {t0 : Int32} {H : Heap} {locs : List Loc} {ls : Array Slot} (h : wb_X5_on_21 Q σa μa σb μb t0) (hPa : va_P D vwCl (wS Aa cy σa μa) H) (hPb : va_P D vwCl (wS Ab cy σb μb) H) (hPx : va_P D vwCl (wX x0 Aa Ab) H) (hS : va_S (AX Aa Ab) s.heap H locs) (hl : lv_has ls 1 []) : W p l e rmX5_on s m args below meth c H locs 0 0 (MQ below (Qcg (PXi x0 Aa Ab cy D Q) (AX Aa Ab)) args s 0 0 (AX Aa Ab)) (F0 m 21 ls [.int t0]) := by
  have hx := C.1
  have hb := C.2.1
  exact endI C hS ⟨_, _, _, _, _, rfl, h, hPa, hPb, hPx⟩ dX5_on_21
def wp_X5_on (σa : Rg) (μa : Ar) (σb : Rg) (μb : Ar) (Q : Int32 → Rg → Ar → Rg → Ar → Prop) : Prop := wp_X4_isOn σa μa  (fun r4 σa4 μa4 => ((r4 = 0 → wp_X4_switchOn σa4 μa4  (fun r18 σa18 μa18 => wb_X5_on_21 Q σa18 μa18 σb μb r18)) ∧ (¬ r4 = 0 → wb_X5_on_21 Q σa4 μa4 σb μb (-1 : Int32))))
set_option maxHeartbeats 4000000 in
set_option maxRecDepth 100000 in
theorem ct_X5_on (l : Launch) (D : va_G) (cy : ClassId) (x0 : Nat) (Aa Ab : Nat → Nat) (hap : apX x0 Aa Ab) {σa : Rg} {μa : Ar} {σb : Rg} {μb : Ar}  {Q : Int32 → Rg → Ar → Rg → Ar → Prop} (h : wp_X5_on σa μa σb μb  Q) : Ct l yX5_on cX5_on 1 (some FieldType.int) rmX5_on D [(cy, .int)] (fun H => va_P D vwCl (wS Aa cy σa μa) H ∧ va_P D vwCl (wS Ab cy σb μb) H ∧ va_P D vwCl (wX x0 Aa Ab) H) [.ref x0] (AX Aa Ab) (PXi x0 Aa Ab cy D Q) := by
  refine Ct.of (by decide) (Nat.le_of_ble_eq_true rfl) ?_
  intro p e s m below meth c ls C hP hl
  obtain ⟨hPa, hPb, hPx⟩ := hP
  have hl : lv_has ls 1 [(0, .ref x0)] := hl
  have hS : va_S (AX Aa Ab) s.heap s.heap [] := va_S.rf
  have hx := C.1
  have hb := C.2.1
  refine lv_aload_n hx hb dX5_on_0 rfl (lv_at hl 0 rfl) ?_
  refine gX_store C hPx (C.2.2.2.2.2.2.1 _ wq_336) dX5_on_1 ?_
  refine kWi (rnVN C (ct_X4_isOn l D cy Aa hap.1 h) yv_X4_isOn wn_366 ⟨rfl, rfl⟩ ⟨Nat.le_of_ble_eq_true rfl, Nat.le_of_ble_eq_true rfl⟩ ⟨Nat.zero_le _, Nat.zero_le _⟩ (vS_store C hPa) hPa hl.1 rfl rfl (Nat.le_of_ble_eq_true rfl) dX5_on_4) hS (fun _ h => Or.inl h) (fun r4 σa4 μa4 H locs h hPa hk hS => ?_)
  have hPb := keepW rS hap.2.2.1 hPb hk
  have hPx := keepW (rX (x0 := x0) (Aa := Aa) (Ab := Ab)) (fun _ _ => hap.2.2.2.2.1) hPx hk
  refine lv_if_eq (tgt := 14) hx hb dX5_on_7 (by decide) (fun hc => ?_) (fun hc => ?_)
  · have h := h.1 hc
    refine lv_aload_n hx hb dX5_on_14 rfl (lv_at hl 0 rfl) ?_
    refine gX_store C hPx (C.2.2.2.2.2.2.1 _ wq_336) dX5_on_15 ?_
    refine kWi (rnVN C (ct_X4_switchOn l D cy Aa hap.1 h) yv_X4_switchOn wn_370 ⟨rfl, rfl⟩ ⟨Nat.le_of_ble_eq_true rfl, Nat.le_of_ble_eq_true rfl⟩ ⟨Nat.zero_le _, Nat.zero_le _⟩ (vS_store C hPa) hPa hl.1 rfl rfl (Nat.le_of_ble_eq_true rfl) dX5_on_18) hS (fun _ h => Or.inl h) (fun r18 σa18 μa18 H locs h hPa hk hS => ?_)
    have hPb := keepW rS hap.2.2.1 hPb hk
    have hPx := keepW (rX (x0 := x0) (Aa := Aa) (Ab := Ab)) (fun _ _ => hap.2.2.2.2.1) hPx hk
    exact wk_X5_on_21 C hap h hPa hPb hPx hS (lv_sub hl [] rfl)
  · have h := h.2 hc
    refine lv_iconst (v := -1) hx hb dX5_on_10 (by decide) ?_
    refine lv_goto (tgt := 21) hx hb dX5_on_11 (by decide) ?_
    exact wk_X5_on_21 C hap h hPa hPb hPx hS (lv_sub hl [] rfl)
abbrev rmX5_off : Room := { frames := 2, cells := 0, slots := 0, locals := 40 }
def wp_X5_off (σa : Rg) (μa : Ar) (σb : Rg) (μb : Ar) (Q : Int32 → Rg → Ar → Rg → Ar → Prop) : Prop := wp_X4_isOn σa μa  (fun r4 σa4 μa4 => ((¬ r4 = 0 → wp_X4_switchOff σa4 μa4  (fun σa16 μa16 => Q (1 : Int32) σa16 μa16 σb μb)) ∧ (r4 = 0 → Q (0 : Int32) σa4 μa4 σb μb)))
set_option maxHeartbeats 4000000 in
set_option maxRecDepth 100000 in
theorem ct_X5_off (l : Launch) (D : va_G) (cy : ClassId) (x0 : Nat) (Aa Ab : Nat → Nat) (hap : apX x0 Aa Ab) {σa : Rg} {μa : Ar} {σb : Rg} {μb : Ar}  {Q : Int32 → Rg → Ar → Rg → Ar → Prop} (h : wp_X5_off σa μa σb μb  Q) : Ct l yX5_off cX5_off 1 (some FieldType.boolean) rmX5_off D [(cy, .int)] (fun H => va_P D vwCl (wS Aa cy σa μa) H ∧ va_P D vwCl (wS Ab cy σb μb) H ∧ va_P D vwCl (wX x0 Aa Ab) H) [.ref x0] (AX Aa Ab) (PXi x0 Aa Ab cy D Q) := by
  refine Ct.of (by decide) (Nat.le_of_ble_eq_true rfl) ?_
  intro p e s m below meth c ls C hP hl
  obtain ⟨hPa, hPb, hPx⟩ := hP
  have hl : lv_has ls 1 [(0, .ref x0)] := hl
  have hS : va_S (AX Aa Ab) s.heap s.heap [] := va_S.rf
  have hx := C.1
  have hb := C.2.1
  refine lv_aload_n hx hb dX5_off_0 rfl (lv_at hl 0 rfl) ?_
  refine gX_store C hPx (C.2.2.2.2.2.2.1 _ wq_336) dX5_off_1 ?_
  refine kWi (rnVN C (ct_X4_isOn l D cy Aa hap.1 h) yv_X4_isOn wn_366 ⟨rfl, rfl⟩ ⟨Nat.le_of_ble_eq_true rfl, Nat.le_of_ble_eq_true rfl⟩ ⟨Nat.zero_le _, Nat.zero_le _⟩ (vS_store C hPa) hPa hl.1 rfl rfl (Nat.le_of_ble_eq_true rfl) dX5_off_4) hS (fun _ h => Or.inl h) (fun r4 σa4 μa4 H locs h hPa hk hS => ?_)
  have hPb := keepW rS hap.2.2.1 hPb hk
  have hPx := keepW (rX (x0 := x0) (Aa := Aa) (Ab := Ab)) (fun _ _ => hap.2.2.2.2.1) hPx hk
  refine lv_if_ne (tgt := 12) hx hb dX5_off_7 (by decide) (fun hc => ?_) (fun hc => ?_)
  · have h := h.1 hc
    refine lv_aload_n hx hb dX5_off_12 rfl (lv_at hl 0 rfl) ?_
    refine gX_store C hPx (C.2.2.2.2.2.2.1 _ wq_336) dX5_off_13 ?_
    refine kWv (rnVN C (ct_X4_switchOff l D cy Aa hap.1 h) yv_X4_switchOff wn_517 ⟨rfl, rfl⟩ ⟨Nat.le_of_ble_eq_true rfl, Nat.le_of_ble_eq_true rfl⟩ ⟨Nat.zero_le _, Nat.zero_le _⟩ (vS_store C hPa) hPa hl.1 rfl rfl (Nat.le_of_ble_eq_true rfl) dX5_off_16) hS (fun _ h => Or.inl h) (fun σa16 μa16 H locs h hPa hk hS => ?_)
    have hPb := keepW rS hap.2.2.1 hPb hk
    have hPx := keepW (rX (x0 := x0) (Aa := Aa) (Ab := Ab)) (fun _ _ => hap.2.2.2.2.1) hPx hk
    refine lv_iconst (v := 1) hx hb dX5_off_19 (by decide) ?_
    exact endZ C hS bz1 ⟨_, _, _, _, _, rfl, h, hPa, hPb, hPx⟩ dX5_off_20
  · have h := h.2 hc
    refine lv_iconst (v := 0) hx hb dX5_off_10 (by decide) ?_
    exact endZ C hS bz0 ⟨_, _, _, _, _, rfl, h, hPa, hPb, hPx⟩ dX5_off_11
abbrev rmX5_power : Room := { frames := 1, cells := 0, slots := 0, locals := 22 }
def wb_X5_power_22 (Q : Int32 → Rg → Ar → Rg → Ar → Prop) (σa : Rg) (μa : Ar) (σb : Rg) (μb : Ar) : Prop := Q (0 : Int32) σa μa σb μb
set_option maxHeartbeats 4000000 in
set_option maxRecDepth 100000 in
theorem wk_X5_power_22 {p : Program} {l : Launch} {e : Env} {s : State} {m : MethodId} {args : Array Value} {below : List Frame} {meth : Method} {c : Code} {D : va_G} {cy : ClassId} {x0 : Nat} {Aa Ab : Nat → Nat} (C : Cx p s m args meth c RX5 cX5_power 3 (some FieldType.boolean) D [(cy, .int)]) (hap : apX x0 Aa Ab) {Q : Int32 → Rg → Ar → Rg → Ar → Prop} {σa : Rg} {μa : Ar} {σb : Rg} {μb : Ar}  {H : Heap} {locs : List Loc} {ls : Array Slot} (h : wb_X5_power_22 Q σa μa σb μb) (hPa : va_P D vwCl (wS Aa cy σa μa) H) (hPb : va_P D vwCl (wS Ab cy σb μb) H) (hPx : va_P D vwCl (wX x0 Aa Ab) H) (hS : va_S (AX Aa Ab) s.heap H locs) (hl : lv_has ls 3 []) : W p l e rmX5_power s m args below meth c H locs 0 0 (MQ below (Qcg (PXi x0 Aa Ab cy D Q) (AX Aa Ab)) args s 0 0 (AX Aa Ab)) (F0 m 22 ls []) := by
  have hx := C.1
  have hb := C.2.1
  refine lv_iconst (v := 0) hx hb dX5_power_22 (by decide) ?_
  exact endZ C hS bz0 ⟨_, _, _, _, _, rfl, h, hPa, hPb, hPx⟩ dX5_power_23
def wp_X5_power (σa : Rg) (μa : Ar) (σb : Rg) (μb : Ar) (x1 : Int32) (x2 : Int32) (Q : Int32 → Rg → Ar → Rg → Ar → Prop) : Prop := wp_X5_within x1 (0 : Int32) (9999 : Int32) (fun r5 => ((r5 = 0 → wb_X5_power_22 Q σa μa σb μb) ∧ (¬ r5 = 0 → wp_X5_within x2 (0 : Int32) (255 : Int32) (fun r16 => ((¬ r16 = 0 → wp_X1_arm σa μa x1 x2 (fun σa33 μa33 => Q (1 : Int32) σa33 μa33 σb μb)) ∧ (r16 = 0 → wb_X5_power_22 Q σa μa σb μb))))))
set_option maxHeartbeats 4000000 in
set_option maxRecDepth 100000 in
theorem ct_X5_power (l : Launch) (D : va_G) (cy : ClassId) (x0 : Nat) (Aa Ab : Nat → Nat) (hap : apX x0 Aa Ab) {σa : Rg} {μa : Ar} {σb : Rg} {μb : Ar} {x1 : Int32} {x2 : Int32} {Q : Int32 → Rg → Ar → Rg → Ar → Prop} (h : wp_X5_power σa μa σb μb x1 x2 Q) : Ct l yX5_power cX5_power 3 (some FieldType.boolean) rmX5_power D [(cy, .int)] (fun H => va_P D vwCl (wS Aa cy σa μa) H ∧ va_P D vwCl (wS Ab cy σb μb) H ∧ va_P D vwCl (wX x0 Aa Ab) H) [.ref x0, .int x1, .int x2] (AX Aa Ab) (PXi x0 Aa Ab cy D Q) := by
  refine Ct.of (by decide) (Nat.le_of_ble_eq_true rfl) ?_
  intro p e s m below meth c ls C hP hl
  obtain ⟨hPa, hPb, hPx⟩ := hP
  have hl : lv_has ls 3 [(0, .ref x0), (1, .int x1), (2, .int x2)] := hl
  have hS : va_S (AX Aa Ab) s.heap s.heap [] := va_S.rf
  have hx := C.1
  have hb := C.2.1
  refine lv_iload_n hx hb dX5_power_0 rfl (lv_at hl 1 rfl) ?_
  refine lv_iconst (v := 0) hx hb dX5_power_1 (by decide) ?_
  refine lv_sipush (v := 9999) hx hb dX5_power_2 (by decide) ?_
  refine kNi (rnS (C.none) (ct_X5_within l D h) ys_X5_within wq_347 ⟨rfl, rfl⟩ ⟨Nat.le_of_ble_eq_true rfl, Nat.le_of_ble_eq_true rfl⟩ ⟨Nat.zero_le _, Nat.zero_le _⟩ trivial hl.1 rfl rfl (Nat.le_of_ble_eq_true rfl) dX5_power_5) hS (fun _ h => h.elim) (fun r5 H locs h hk hS => ?_)
  have hPa := keepN hPa hk
  have hPb := keepN hPb hk
  have hPx := keepN hPx hk
  refine lv_if_eq (tgt := 22) hx hb dX5_power_8 (by decide) (fun hc => ?_) (fun hc => ?_)
  · have h := h.1 hc
    exact wk_X5_power_22 C hap h hPa hPb hPx hS (lv_sub hl [] rfl)
  · have h := h.2 hc
    refine lv_iload_n hx hb dX5_power_11 rfl (lv_at hl 2 rfl) ?_
    refine lv_iconst (v := 0) hx hb dX5_power_12 (by decide) ?_
    refine lv_sipush (v := 255) hx hb dX5_power_13 (by decide) ?_
    refine kNi (rnS (C.none) (ct_X5_within l D h) ys_X5_within wq_347 ⟨rfl, rfl⟩ ⟨Nat.le_of_ble_eq_true rfl, Nat.le_of_ble_eq_true rfl⟩ ⟨Nat.zero_le _, Nat.zero_le _⟩ trivial hl.1 rfl rfl (Nat.le_of_ble_eq_true rfl) dX5_power_16) hS (fun _ h => h.elim) (fun r16 H locs h hk hS => ?_)
    have hPa := keepN hPa hk
    have hPb := keepN hPb hk
    have hPx := keepN hPx hk
    refine lv_if_ne (tgt := 24) hx hb dX5_power_19 (by decide) (fun hc => ?_) (fun hc => ?_)
    · have h := h.1 hc
      refine lv_aload_n hx hb dX5_power_24 rfl (lv_at hl 0 rfl) ?_
      refine gX_store C hPx (C.2.2.2.2.2.2.1 _ wq_336) dX5_power_25 ?_
      refine gnS_store_chip C hPa (NW.use C.2.2.2.2.2.2.2.2 wn_310) dX5_power_28 ?_
      refine lv_iload_n hx hb dX5_power_31 rfl (lv_at hl 1 rfl) ?_
      refine lv_iload_n hx hb dX5_power_32 rfl (lv_at hl 2 rfl) ?_
      refine kWv (rnVN C (ct_X1_arm l D cy Aa hap.1 h) yv_X1_arm wn_522 ⟨rfl, rfl⟩ ⟨Nat.le_of_ble_eq_true rfl, Nat.le_of_ble_eq_true rfl⟩ ⟨Nat.zero_le _, Nat.zero_le _⟩ (vS_chip C hPa) hPa hl.1 rfl rfl (Nat.le_of_ble_eq_true rfl) dX5_power_33) hS (fun _ h => Or.inl h) (fun σa33 μa33 H locs h hPa hk hS => ?_)
      have hPb := keepW rS hap.2.2.1 hPb hk
      have hPx := keepW (rX (x0 := x0) (Aa := Aa) (Ab := Ab)) (fun _ _ => hap.2.2.2.2.1) hPx hk
      refine lv_iconst (v := 1) hx hb dX5_power_36 (by decide) ?_
      exact endZ C hS bz1 ⟨_, _, _, _, _, rfl, h, hPa, hPb, hPx⟩ dX5_power_37
    · have h := h.2 hc
      exact wk_X5_power_22 C hap h hPa hPb hPx hS (lv_sub hl [] rfl)
abbrev rmX5_rot : Room := { frames := 2, cells := 0, slots := 0, locals := 45 }
def wb_X5_rot_36 (Q : Int32 → Rg → Ar → Rg → Ar → Prop) (σa : Rg) (μa : Ar) (σb : Rg) (μb : Ar) : Prop := Q (-1 : Int32) σa μa σb μb
set_option maxHeartbeats 4000000 in
set_option maxRecDepth 100000 in
theorem wk_X5_rot_36 {p : Program} {l : Launch} {e : Env} {s : State} {m : MethodId} {args : Array Value} {below : List Frame} {meth : Method} {c : Code} {D : va_G} {cy : ClassId} {x0 : Nat} {Aa Ab : Nat → Nat} (C : Cx p s m args meth c RX5 cX5_rot 4 (some FieldType.int) D [(cy, .int)]) (hap : apX x0 Aa Ab) {Q : Int32 → Rg → Ar → Rg → Ar → Prop} {σa : Rg} {μa : Ar} {σb : Rg} {μb : Ar}  {H : Heap} {locs : List Loc} {ls : Array Slot} (h : wb_X5_rot_36 Q σa μa σb μb) (hPa : va_P D vwCl (wS Aa cy σa μa) H) (hPb : va_P D vwCl (wS Ab cy σb μb) H) (hPx : va_P D vwCl (wX x0 Aa Ab) H) (hS : va_S (AX Aa Ab) s.heap H locs) (hl : lv_has ls 4 []) : W p l e rmX5_rot s m args below meth c H locs 0 0 (MQ below (Qcg (PXi x0 Aa Ab cy D Q) (AX Aa Ab)) args s 0 0 (AX Aa Ab)) (F0 m 36 ls []) := by
  have hx := C.1
  have hb := C.2.1
  refine lv_iconst (v := -1) hx hb dX5_rot_36 (by decide) ?_
  exact endI C hS ⟨_, _, _, _, _, rfl, h, hPa, hPb, hPx⟩ dX5_rot_37
def wp_X5_rot (σa : Rg) (μa : Ar) (σb : Rg) (μb : Ar) (x1 : Int32) (x2 : Int32) (x3 : Int32) (Q : Int32 → Rg → Ar → Rg → Ar → Prop) : Prop := wp_X4_isOn σa μa  (fun r4 σa4 μa4 => ((¬ r4 = 0 → wb_X5_rot_36 Q σa4 μa4 σb μb) ∧ (r4 = 0 → wp_X1_holds σa4 μa4 x1 x2 (fun r19 σa19 μa19 => ((r19 = 0 → wb_X5_rot_36 Q σa19 μa19 σb μb) ∧ (¬ r19 = 0 → wp_X5_within x3 (0 : Int32) (255 : Int32) (fun r30 => ((¬ r30 = 0 → wp_X1_decay σa19 μa19 x1 x2 x3 (fun r48 σa48 μa48 => Q r48 σa48 μa48 σb μb)) ∧ (r30 = 0 → wb_X5_rot_36 Q σa19 μa19 σb μb)))))))))
set_option maxHeartbeats 4000000 in
set_option maxRecDepth 100000 in
theorem ct_X5_rot (l : Launch) (D : va_G) (cy : ClassId) (x0 : Nat) (Aa Ab : Nat → Nat) (hap : apX x0 Aa Ab) {σa : Rg} {μa : Ar} {σb : Rg} {μb : Ar} {x1 : Int32} {x2 : Int32} {x3 : Int32} {Q : Int32 → Rg → Ar → Rg → Ar → Prop} (h : wp_X5_rot σa μa σb μb x1 x2 x3 Q) : Ct l yX5_rot cX5_rot 4 (some FieldType.int) rmX5_rot D [(cy, .int)] (fun H => va_P D vwCl (wS Aa cy σa μa) H ∧ va_P D vwCl (wS Ab cy σb μb) H ∧ va_P D vwCl (wX x0 Aa Ab) H) [.ref x0, .int x1, .int x2, .int x3] (AX Aa Ab) (PXi x0 Aa Ab cy D Q) := by
  refine Ct.of (by decide) (Nat.le_of_ble_eq_true rfl) ?_
  intro p e s m below meth c ls C hP hl
  obtain ⟨hPa, hPb, hPx⟩ := hP
  have hl : lv_has ls 4 [(0, .ref x0), (1, .int x1), (2, .int x2), (3, .int x3)] := hl
  have hS : va_S (AX Aa Ab) s.heap s.heap [] := va_S.rf
  have hx := C.1
  have hb := C.2.1
  refine lv_aload_n hx hb dX5_rot_0 rfl (lv_at hl 0 rfl) ?_
  refine gX_store C hPx (C.2.2.2.2.2.2.1 _ wq_336) dX5_rot_1 ?_
  refine kWi (rnVN C (ct_X4_isOn l D cy Aa hap.1 h) yv_X4_isOn wn_366 ⟨rfl, rfl⟩ ⟨Nat.le_of_ble_eq_true rfl, Nat.le_of_ble_eq_true rfl⟩ ⟨Nat.zero_le _, Nat.zero_le _⟩ (vS_store C hPa) hPa hl.1 rfl rfl (Nat.le_of_ble_eq_true rfl) dX5_rot_4) hS (fun _ h => Or.inl h) (fun r4 σa4 μa4 H locs h hPa hk hS => ?_)
  have hPb := keepW rS hap.2.2.1 hPb hk
  have hPx := keepW (rX (x0 := x0) (Aa := Aa) (Ab := Ab)) (fun _ _ => hap.2.2.2.2.1) hPx hk
  refine lv_if_ne (tgt := 36) hx hb dX5_rot_7 (by decide) (fun hc => ?_) (fun hc => ?_)
  · have h := h.1 hc
    exact wk_X5_rot_36 C hap h hPa hPb hPx hS (lv_sub hl [] rfl)
  · have h := h.2 hc
    refine lv_aload_n hx hb dX5_rot_10 rfl (lv_at hl 0 rfl) ?_
    refine gX_store C hPx (C.2.2.2.2.2.2.1 _ wq_336) dX5_rot_11 ?_
    refine gnS_store_chip C hPa (NW.use C.2.2.2.2.2.2.2.2 wn_310) dX5_rot_14 ?_
    refine lv_iload_n hx hb dX5_rot_17 rfl (lv_at hl 1 rfl) ?_
    refine lv_iload_n hx hb dX5_rot_18 rfl (lv_at hl 2 rfl) ?_
    refine kWi (rnVN C (ct_X1_holds l D cy Aa hap.1 h) yv_X1_holds wn_530 ⟨rfl, rfl⟩ ⟨Nat.le_of_ble_eq_true rfl, Nat.le_of_ble_eq_true rfl⟩ ⟨Nat.zero_le _, Nat.zero_le _⟩ (vS_chip C hPa) hPa hl.1 rfl rfl (Nat.le_of_ble_eq_true rfl) dX5_rot_19) hS (fun _ h => Or.inl h) (fun r19 σa19 μa19 H locs h hPa hk hS => ?_)
    have hPb := keepW rS hap.2.2.1 hPb hk
    have hPx := keepW (rX (x0 := x0) (Aa := Aa) (Ab := Ab)) (fun _ _ => hap.2.2.2.2.1) hPx hk
    refine lv_if_eq (tgt := 36) hx hb dX5_rot_22 (by decide) (fun hc => ?_) (fun hc => ?_)
    · have h := h.1 hc
      exact wk_X5_rot_36 C hap h hPa hPb hPx hS (lv_sub hl [] rfl)
    · have h := h.2 hc
      refine lv_iload_n hx hb dX5_rot_25 rfl (lv_at hl 3 rfl) ?_
      refine lv_iconst (v := 0) hx hb dX5_rot_26 (by decide) ?_
      refine lv_sipush (v := 255) hx hb dX5_rot_27 (by decide) ?_
      refine kNi (rnS (C.none) (ct_X5_within l D h) ys_X5_within wq_347 ⟨rfl, rfl⟩ ⟨Nat.le_of_ble_eq_true rfl, Nat.le_of_ble_eq_true rfl⟩ ⟨Nat.zero_le _, Nat.zero_le _⟩ trivial hl.1 rfl rfl (Nat.le_of_ble_eq_true rfl) dX5_rot_30) hS (fun _ h => h.elim) (fun r30 H locs h hk hS => ?_)
      have hPa := keepN hPa hk
      have hPb := keepN hPb hk
      have hPx := keepN hPx hk
      refine lv_if_ne (tgt := 38) hx hb dX5_rot_33 (by decide) (fun hc => ?_) (fun hc => ?_)
      · have h := h.1 hc
        refine lv_aload_n hx hb dX5_rot_38 rfl (lv_at hl 0 rfl) ?_
        refine gX_store C hPx (C.2.2.2.2.2.2.1 _ wq_336) dX5_rot_39 ?_
        refine gnS_store_chip C hPa (NW.use C.2.2.2.2.2.2.2.2 wn_310) dX5_rot_42 ?_
        refine lv_iload_n hx hb dX5_rot_45 rfl (lv_at hl 1 rfl) ?_
        refine lv_iload_n hx hb dX5_rot_46 rfl (lv_at hl 2 rfl) ?_
        refine lv_iload_n hx hb dX5_rot_47 rfl (lv_at hl 3 rfl) ?_
        refine kWi (rnVN C (ct_X1_decay l D cy Aa hap.1 h) yv_X1_decay wn_531 ⟨rfl, rfl⟩ ⟨Nat.le_of_ble_eq_true rfl, Nat.le_of_ble_eq_true rfl⟩ ⟨Nat.zero_le _, Nat.zero_le _⟩ (vS_chip C hPa) hPa hl.1 rfl rfl (Nat.le_of_ble_eq_true rfl) dX5_rot_48) hS (fun _ h => Or.inl h) (fun r48 σa48 μa48 H locs h hPa hk hS => ?_)
        have hPb := keepW rS hap.2.2.1 hPb hk
        have hPx := keepW (rX (x0 := x0) (Aa := Aa) (Ab := Ab)) (fun _ _ => hap.2.2.2.2.1) hPx hk
        exact endI C hS ⟨_, _, _, _, _, rfl, h, hPa, hPb, hPx⟩ dX5_rot_51
      · have h := h.2 hc
        exact wk_X5_rot_36 C hap h hPa hPb hPx hS (lv_sub hl [] rfl)
abbrev rmX5_set : Room := { frames := 6, cells := 0, slots := 0, locals := 141 }
def wb_X5_set_18 (Q : Int32 → Rg → Ar → Rg → Ar → Prop) (σa : Rg) (μa : Ar) (σb : Rg) (μb : Ar) : Prop := Q (-1 : Int32) σa μa σb μb
set_option maxHeartbeats 4000000 in
set_option maxRecDepth 100000 in
theorem wk_X5_set_18 {p : Program} {l : Launch} {e : Env} {s : State} {m : MethodId} {args : Array Value} {below : List Frame} {meth : Method} {c : Code} {D : va_G} {cy : ClassId} {x0 : Nat} {Aa Ab : Nat → Nat} (C : Cx p s m args meth c RX5 cX5_set 4 (some FieldType.int) D [(cy, .int)]) (hap : apX x0 Aa Ab) {Q : Int32 → Rg → Ar → Rg → Ar → Prop} {σa : Rg} {μa : Ar} {σb : Rg} {μb : Ar}  {H : Heap} {locs : List Loc} {ls : Array Slot} (h : wb_X5_set_18 Q σa μa σb μb) (hPa : va_P D vwCl (wS Aa cy σa μa) H) (hPb : va_P D vwCl (wS Ab cy σb μb) H) (hPx : va_P D vwCl (wX x0 Aa Ab) H) (hS : va_S (AX Aa Ab) s.heap H locs) (hl : lv_has ls 4 []) : W p l e rmX5_set s m args below meth c H locs 0 0 (MQ below (Qcg (PXi x0 Aa Ab cy D Q) (AX Aa Ab)) args s 0 0 (AX Aa Ab)) (F0 m 18 ls []) := by
  have hx := C.1
  have hb := C.2.1
  refine lv_iconst (v := -1) hx hb dX5_set_18 (by decide) ?_
  exact endI C hS ⟨_, _, _, _, _, rfl, h, hPa, hPb, hPx⟩ dX5_set_19
def wp_X5_set (σa : Rg) (μa : Ar) (σb : Rg) (μb : Ar) (x1 : Int32) (x2 : Int32) (x3 : Int32) (Q : Int32 → Rg → Ar → Rg → Ar → Prop) : Prop := wp_X4_isOn σa μa  (fun r4 σa4 μa4 => ((r4 = 0 → wb_X5_set_18 Q σa4 μa4 σb μb) ∧ (¬ r4 = 0 → wp_X5_isSetting x1 x3 (fun r12 => ((¬ r12 = 0 → (((σa4 15) = 0 → wp_X4_keep σa4 μa4 x1 x2 x3 (fun r54 σa54 μa54 => Q r54 σa54 μa54 σb μb)) ∧ (¬ (σa4 15) = 0 → wp_X0_tell σa4 μa4 x1 x2 x3 (fun r43 σa43 μa43 => Q r43 σa43 μa43 σb μb)))) ∧ (r12 = 0 → wb_X5_set_18 Q σa4 μa4 σb μb))))))
set_option maxHeartbeats 4000000 in
set_option maxRecDepth 100000 in
theorem ct_X5_set (l : Launch) (D : va_G) (cy : ClassId) (x0 : Nat) (Aa Ab : Nat → Nat) (hap : apX x0 Aa Ab) {σa : Rg} {μa : Ar} {σb : Rg} {μb : Ar} {x1 : Int32} {x2 : Int32} {x3 : Int32} {Q : Int32 → Rg → Ar → Rg → Ar → Prop} (h : wp_X5_set σa μa σb μb x1 x2 x3 Q) : Ct l yX5_set cX5_set 4 (some FieldType.int) rmX5_set D [(cy, .int)] (fun H => va_P D vwCl (wS Aa cy σa μa) H ∧ va_P D vwCl (wS Ab cy σb μb) H ∧ va_P D vwCl (wX x0 Aa Ab) H) [.ref x0, .int x1, .int x2, .int x3] (AX Aa Ab) (PXi x0 Aa Ab cy D Q) := by
  refine Ct.of (by decide) (Nat.le_of_ble_eq_true rfl) ?_
  intro p e s m below meth c ls C hP hl
  obtain ⟨hPa, hPb, hPx⟩ := hP
  have hl : lv_has ls 4 [(0, .ref x0), (1, .int x1), (2, .int x2), (3, .int x3)] := hl
  have hS : va_S (AX Aa Ab) s.heap s.heap [] := va_S.rf
  have hx := C.1
  have hb := C.2.1
  refine lv_aload_n hx hb dX5_set_0 rfl (lv_at hl 0 rfl) ?_
  refine gX_store C hPx (C.2.2.2.2.2.2.1 _ wq_336) dX5_set_1 ?_
  refine kWi (rnVN C (ct_X4_isOn l D cy Aa hap.1 h) yv_X4_isOn wn_366 ⟨rfl, rfl⟩ ⟨Nat.le_of_ble_eq_true rfl, Nat.le_of_ble_eq_true rfl⟩ ⟨Nat.zero_le _, Nat.zero_le _⟩ (vS_store C hPa) hPa hl.1 rfl rfl (Nat.le_of_ble_eq_true rfl) dX5_set_4) hS (fun _ h => Or.inl h) (fun r4 σa4 μa4 H locs h hPa hk hS => ?_)
  have hPb := keepW rS hap.2.2.1 hPb hk
  have hPx := keepW (rX (x0 := x0) (Aa := Aa) (Ab := Ab)) (fun _ _ => hap.2.2.2.2.1) hPx hk
  refine lv_if_eq (tgt := 18) hx hb dX5_set_7 (by decide) (fun hc => ?_) (fun hc => ?_)
  · have h := h.1 hc
    exact wk_X5_set_18 C hap h hPa hPb hPx hS (lv_sub hl [] rfl)
  · have h := h.2 hc
    refine lv_iload_n hx hb dX5_set_10 rfl (lv_at hl 1 rfl) ?_
    refine lv_iload_n hx hb dX5_set_11 rfl (lv_at hl 3 rfl) ?_
    refine kNi (rnS (C.none) (ct_X5_isSetting l D h) ys_X5_isSetting wq_539 ⟨rfl, rfl⟩ ⟨Nat.le_of_ble_eq_true rfl, Nat.le_of_ble_eq_true rfl⟩ ⟨Nat.zero_le _, Nat.zero_le _⟩ trivial hl.1 rfl rfl (Nat.le_of_ble_eq_true rfl) dX5_set_12) hS (fun _ h => h.elim) (fun r12 H locs h hk hS => ?_)
    have hPa := keepN hPa hk
    have hPb := keepN hPb hk
    have hPx := keepN hPx hk
    refine lv_if_ne (tgt := 20) hx hb dX5_set_15 (by decide) (fun hc => ?_) (fun hc => ?_)
    · have h := h.1 hc
      refine lv_aload_n hx hb dX5_set_20 rfl (lv_at hl 0 rfl) ?_
      refine gX_store C hPx (C.2.2.2.2.2.2.1 _ wq_336) dX5_set_21 ?_
      refine gnS_store_change C hPa (NW.use C.2.2.2.2.2.2.2.2 wn_314) dX5_set_24 ?_
      refine gnS_change_begun C hPa (NW.use C.2.2.2.2.2.2.2.2 wn_267) dX5_set_27 ?_
      refine lv_if_eq (tgt := 47) hx hb dX5_set_30 (by decide) (fun hc => ?_) (fun hc => ?_)
      · have h := h.1 hc
        refine lv_aload_n hx hb dX5_set_47 rfl (lv_at hl 0 rfl) ?_
        refine gX_store C hPx (C.2.2.2.2.2.2.1 _ wq_336) dX5_set_48 ?_
        refine lv_iload_n hx hb dX5_set_51 rfl (lv_at hl 1 rfl) ?_
        refine lv_iload_n hx hb dX5_set_52 rfl (lv_at hl 2 rfl) ?_
        refine lv_iload_n hx hb dX5_set_53 rfl (lv_at hl 3 rfl) ?_
        refine kWi (rnVN C (ct_X4_keep l D cy Aa hap.1 h) yv_X4_keep wn_550 ⟨rfl, rfl⟩ ⟨Nat.le_of_ble_eq_true rfl, Nat.le_of_ble_eq_true rfl⟩ ⟨Nat.zero_le _, Nat.zero_le _⟩ (vS_store C hPa) hPa hl.1 rfl rfl (Nat.le_of_ble_eq_true rfl) dX5_set_54) hS (fun _ h => Or.inl h) (fun r54 σa54 μa54 H locs h hPa hk hS => ?_)
        have hPb := keepW rS hap.2.2.1 hPb hk
        have hPx := keepW (rX (x0 := x0) (Aa := Aa) (Ab := Ab)) (fun _ _ => hap.2.2.2.2.1) hPx hk
        exact endI C hS ⟨_, _, _, _, _, rfl, h, hPa, hPb, hPx⟩ dX5_set_57
      · have h := h.2 hc
        refine lv_aload_n hx hb dX5_set_33 rfl (lv_at hl 0 rfl) ?_
        refine gX_store C hPx (C.2.2.2.2.2.2.1 _ wq_336) dX5_set_34 ?_
        refine gnS_store_change C hPa (NW.use C.2.2.2.2.2.2.2.2 wn_314) dX5_set_37 ?_
        refine lv_iload_n hx hb dX5_set_40 rfl (lv_at hl 1 rfl) ?_
        refine lv_iload_n hx hb dX5_set_41 rfl (lv_at hl 2 rfl) ?_
        refine lv_iload_n hx hb dX5_set_42 rfl (lv_at hl 3 rfl) ?_
        refine kWi (rnVN C (ct_X0_tell l D cy Aa hap.1 h) yv_X0_tell wn_542 ⟨rfl, rfl⟩ ⟨Nat.le_of_ble_eq_true rfl, Nat.le_of_ble_eq_true rfl⟩ ⟨Nat.zero_le _, Nat.zero_le _⟩ (vS_change C hPa) hPa hl.1 rfl rfl (Nat.le_of_ble_eq_true rfl) dX5_set_43) hS (fun _ h => Or.inl h) (fun r43 σa43 μa43 H locs h hPa hk hS => ?_)
        have hPb := keepW rS hap.2.2.1 hPb hk
        have hPx := keepW (rX (x0 := x0) (Aa := Aa) (Ab := Ab)) (fun _ _ => hap.2.2.2.2.1) hPx hk
        exact endI C hS ⟨_, _, _, _, _, rfl, h, hPa, hPb, hPx⟩ dX5_set_46
    · have h := h.2 hc
      exact wk_X5_set_18 C hap h hPa hPb hPx hS (lv_sub hl [] rfl)
abbrev rmX5_drop : Room := { frames := 6, cells := 0, slots := 0, locals := 141 }
def wb_X5_drop_31 (Q : Int32 → Rg → Ar → Rg → Ar → Prop) (σa : Rg) (μa : Ar) (σb : Rg) (μb : Ar) : Prop := Q (-1 : Int32) σa μa σb μb
set_option maxHeartbeats 4000000 in
set_option maxRecDepth 100000 in
theorem wk_X5_drop_31 {p : Program} {l : Launch} {e : Env} {s : State} {m : MethodId} {args : Array Value} {below : List Frame} {meth : Method} {c : Code} {D : va_G} {cy : ClassId} {x0 : Nat} {Aa Ab : Nat → Nat} (C : Cx p s m args meth c RX5 cX5_drop 2 (some FieldType.int) D [(cy, .int)]) (hap : apX x0 Aa Ab) {Q : Int32 → Rg → Ar → Rg → Ar → Prop} {σa : Rg} {μa : Ar} {σb : Rg} {μb : Ar}  {H : Heap} {locs : List Loc} {ls : Array Slot} (h : wb_X5_drop_31 Q σa μa σb μb) (hPa : va_P D vwCl (wS Aa cy σa μa) H) (hPb : va_P D vwCl (wS Ab cy σb μb) H) (hPx : va_P D vwCl (wX x0 Aa Ab) H) (hS : va_S (AX Aa Ab) s.heap H locs) (hl : lv_has ls 2 []) : W p l e rmX5_drop s m args below meth c H locs 0 0 (MQ below (Qcg (PXi x0 Aa Ab cy D Q) (AX Aa Ab)) args s 0 0 (AX Aa Ab)) (F0 m 31 ls []) := by
  have hx := C.1
  have hb := C.2.1
  refine lv_iconst (v := -1) hx hb dX5_drop_31 (by decide) ?_
  exact endI C hS ⟨_, _, _, _, _, rfl, h, hPa, hPb, hPx⟩ dX5_drop_32
def wp_X5_drop (σa : Rg) (μa : Ar) (σb : Rg) (μb : Ar) (x1 : Int32) (Q : Int32 → Rg → Ar → Rg → Ar → Prop) : Prop := wp_X4_isOn σa μa  (fun r4 σa4 μa4 => ((r4 = 0 → wb_X5_drop_31 Q σa4 μa4 σb μb) ∧ (¬ r4 = 0 → wp_X5_within x1 (0 : Int32) (31 : Int32) (fun r14 => ((r14 = 0 → wb_X5_drop_31 Q σa4 μa4 σb μb) ∧ (¬ r14 = 0 → wp_X4_wouldHave σa4 μa4 x1 (fun r25 σa25 μa25 => ((¬ r25 = 0 → (((σa25 15) = 0 → wp_X4_keep σa25 μa25 x1 (0 : Int32) (0 : Int32) (fun r67 σa67 μa67 => Q r67 σa67 μa67 σb μb)) ∧ (¬ (σa25 15) = 0 → wp_X0_tell σa25 μa25 x1 (0 : Int32) (0 : Int32) (fun r56 σa56 μa56 => Q r56 σa56 μa56 σb μb)))) ∧ (r25 = 0 → wb_X5_drop_31 Q σa25 μa25 σb μb)))))))))
set_option maxHeartbeats 4000000 in
set_option maxRecDepth 100000 in
theorem ct_X5_drop (l : Launch) (D : va_G) (cy : ClassId) (x0 : Nat) (Aa Ab : Nat → Nat) (hap : apX x0 Aa Ab) {σa : Rg} {μa : Ar} {σb : Rg} {μb : Ar} {x1 : Int32} {Q : Int32 → Rg → Ar → Rg → Ar → Prop} (h : wp_X5_drop σa μa σb μb x1 Q) : Ct l yX5_drop cX5_drop 2 (some FieldType.int) rmX5_drop D [(cy, .int)] (fun H => va_P D vwCl (wS Aa cy σa μa) H ∧ va_P D vwCl (wS Ab cy σb μb) H ∧ va_P D vwCl (wX x0 Aa Ab) H) [.ref x0, .int x1] (AX Aa Ab) (PXi x0 Aa Ab cy D Q) := by
  refine Ct.of (by decide) (Nat.le_of_ble_eq_true rfl) ?_
  intro p e s m below meth c ls C hP hl
  obtain ⟨hPa, hPb, hPx⟩ := hP
  have hl : lv_has ls 2 [(0, .ref x0), (1, .int x1)] := hl
  have hS : va_S (AX Aa Ab) s.heap s.heap [] := va_S.rf
  have hx := C.1
  have hb := C.2.1
  refine lv_aload_n hx hb dX5_drop_0 rfl (lv_at hl 0 rfl) ?_
  refine gX_store C hPx (C.2.2.2.2.2.2.1 _ wq_336) dX5_drop_1 ?_
  refine kWi (rnVN C (ct_X4_isOn l D cy Aa hap.1 h) yv_X4_isOn wn_366 ⟨rfl, rfl⟩ ⟨Nat.le_of_ble_eq_true rfl, Nat.le_of_ble_eq_true rfl⟩ ⟨Nat.zero_le _, Nat.zero_le _⟩ (vS_store C hPa) hPa hl.1 rfl rfl (Nat.le_of_ble_eq_true rfl) dX5_drop_4) hS (fun _ h => Or.inl h) (fun r4 σa4 μa4 H locs h hPa hk hS => ?_)
  have hPb := keepW rS hap.2.2.1 hPb hk
  have hPx := keepW (rX (x0 := x0) (Aa := Aa) (Ab := Ab)) (fun _ _ => hap.2.2.2.2.1) hPx hk
  refine lv_if_eq (tgt := 31) hx hb dX5_drop_7 (by decide) (fun hc => ?_) (fun hc => ?_)
  · have h := h.1 hc
    exact wk_X5_drop_31 C hap h hPa hPb hPx hS (lv_sub hl [] rfl)
  · have h := h.2 hc
    refine lv_iload_n hx hb dX5_drop_10 rfl (lv_at hl 1 rfl) ?_
    refine lv_iconst (v := 0) hx hb dX5_drop_11 (by decide) ?_
    refine lv_bipush (v := 31) hx hb dX5_drop_12 (by decide) ?_
    refine kNi (rnS (C.none) (ct_X5_within l D h) ys_X5_within wq_347 ⟨rfl, rfl⟩ ⟨Nat.le_of_ble_eq_true rfl, Nat.le_of_ble_eq_true rfl⟩ ⟨Nat.zero_le _, Nat.zero_le _⟩ trivial hl.1 rfl rfl (Nat.le_of_ble_eq_true rfl) dX5_drop_14) hS (fun _ h => h.elim) (fun r14 H locs h hk hS => ?_)
    have hPa := keepN hPa hk
    have hPb := keepN hPb hk
    have hPx := keepN hPx hk
    refine lv_if_eq (tgt := 31) hx hb dX5_drop_17 (by decide) (fun hc => ?_) (fun hc => ?_)
    · have h := h.1 hc
      exact wk_X5_drop_31 C hap h hPa hPb hPx hS (lv_sub hl [] rfl)
    · have h := h.2 hc
      refine lv_aload_n hx hb dX5_drop_20 rfl (lv_at hl 0 rfl) ?_
      refine gX_store C hPx (C.2.2.2.2.2.2.1 _ wq_336) dX5_drop_21 ?_
      refine lv_iload_n hx hb dX5_drop_24 rfl (lv_at hl 1 rfl) ?_
      refine kWi (rnVN C (ct_X4_wouldHave l D cy Aa hap.1 h) yv_X4_wouldHave wn_633 ⟨rfl, rfl⟩ ⟨Nat.le_of_ble_eq_true rfl, Nat.le_of_ble_eq_true rfl⟩ ⟨Nat.zero_le _, Nat.zero_le _⟩ (vS_store C hPa) hPa hl.1 rfl rfl (Nat.le_of_ble_eq_true rfl) dX5_drop_25) hS (fun _ h => Or.inl h) (fun r25 σa25 μa25 H locs h hPa hk hS => ?_)
      have hPb := keepW rS hap.2.2.1 hPb hk
      have hPx := keepW (rX (x0 := x0) (Aa := Aa) (Ab := Ab)) (fun _ _ => hap.2.2.2.2.1) hPx hk
      refine lv_if_ne (tgt := 33) hx hb dX5_drop_28 (by decide) (fun hc => ?_) (fun hc => ?_)
      · have h := h.1 hc
        refine lv_aload_n hx hb dX5_drop_33 rfl (lv_at hl 0 rfl) ?_
        refine gX_store C hPx (C.2.2.2.2.2.2.1 _ wq_336) dX5_drop_34 ?_
        refine gnS_store_change C hPa (NW.use C.2.2.2.2.2.2.2.2 wn_314) dX5_drop_37 ?_
        refine gnS_change_begun C hPa (NW.use C.2.2.2.2.2.2.2.2 wn_267) dX5_drop_40 ?_
        refine lv_if_eq (tgt := 60) hx hb dX5_drop_43 (by decide) (fun hc => ?_) (fun hc => ?_)
        · have h := h.1 hc
          refine lv_aload_n hx hb dX5_drop_60 rfl (lv_at hl 0 rfl) ?_
          refine gX_store C hPx (C.2.2.2.2.2.2.1 _ wq_336) dX5_drop_61 ?_
          refine lv_iload_n hx hb dX5_drop_64 rfl (lv_at hl 1 rfl) ?_
          refine lv_iconst (v := 0) hx hb dX5_drop_65 (by decide) ?_
          refine lv_iconst (v := 0) hx hb dX5_drop_66 (by decide) ?_
          refine kWi (rnVN C (ct_X4_keep l D cy Aa hap.1 h) yv_X4_keep wn_550 ⟨rfl, rfl⟩ ⟨Nat.le_of_ble_eq_true rfl, Nat.le_of_ble_eq_true rfl⟩ ⟨Nat.zero_le _, Nat.zero_le _⟩ (vS_store C hPa) hPa hl.1 rfl rfl (Nat.le_of_ble_eq_true rfl) dX5_drop_67) hS (fun _ h => Or.inl h) (fun r67 σa67 μa67 H locs h hPa hk hS => ?_)
          have hPb := keepW rS hap.2.2.1 hPb hk
          have hPx := keepW (rX (x0 := x0) (Aa := Aa) (Ab := Ab)) (fun _ _ => hap.2.2.2.2.1) hPx hk
          exact endI C hS ⟨_, _, _, _, _, rfl, h, hPa, hPb, hPx⟩ dX5_drop_70
        · have h := h.2 hc
          refine lv_aload_n hx hb dX5_drop_46 rfl (lv_at hl 0 rfl) ?_
          refine gX_store C hPx (C.2.2.2.2.2.2.1 _ wq_336) dX5_drop_47 ?_
          refine gnS_store_change C hPa (NW.use C.2.2.2.2.2.2.2.2 wn_314) dX5_drop_50 ?_
          refine lv_iload_n hx hb dX5_drop_53 rfl (lv_at hl 1 rfl) ?_
          refine lv_iconst (v := 0) hx hb dX5_drop_54 (by decide) ?_
          refine lv_iconst (v := 0) hx hb dX5_drop_55 (by decide) ?_
          refine kWi (rnVN C (ct_X0_tell l D cy Aa hap.1 h) yv_X0_tell wn_542 ⟨rfl, rfl⟩ ⟨Nat.le_of_ble_eq_true rfl, Nat.le_of_ble_eq_true rfl⟩ ⟨Nat.zero_le _, Nat.zero_le _⟩ (vS_change C hPa) hPa hl.1 rfl rfl (Nat.le_of_ble_eq_true rfl) dX5_drop_56) hS (fun _ h => Or.inl h) (fun r56 σa56 μa56 H locs h hPa hk hS => ?_)
          have hPb := keepW rS hap.2.2.1 hPb hk
          have hPx := keepW (rX (x0 := x0) (Aa := Aa) (Ab := Ab)) (fun _ _ => hap.2.2.2.2.1) hPx hk
          exact endI C hS ⟨_, _, _, _, _, rfl, h, hPa, hPb, hPx⟩ dX5_drop_59
      · have h := h.2 hc
        exact wk_X5_drop_31 C hap h hPa hPb hPx hS (lv_sub hl [] rfl)
abbrev rmX5_bump : Room := { frames := 6, cells := 0, slots := 0, locals := 142 }
def wb_X5_bump_34 (Q : Int32 → Rg → Ar → Rg → Ar → Prop) (σa : Rg) (μa : Ar) (σb : Rg) (μb : Ar) : Prop := Q (-1 : Int32) σa μa σb μb
set_option maxHeartbeats 4000000 in
set_option maxRecDepth 100000 in
theorem wk_X5_bump_34 {p : Program} {l : Launch} {e : Env} {s : State} {m : MethodId} {args : Array Value} {below : List Frame} {meth : Method} {c : Code} {D : va_G} {cy : ClassId} {x0 : Nat} {Aa Ab : Nat → Nat} (C : Cx p s m args meth c RX5 cX5_bump 2 (some FieldType.int) D [(cy, .int)]) (hap : apX x0 Aa Ab) {Q : Int32 → Rg → Ar → Rg → Ar → Prop} {σa : Rg} {μa : Ar} {σb : Rg} {μb : Ar}  {H : Heap} {locs : List Loc} {ls : Array Slot} (h : wb_X5_bump_34 Q σa μa σb μb) (hPa : va_P D vwCl (wS Aa cy σa μa) H) (hPb : va_P D vwCl (wS Ab cy σb μb) H) (hPx : va_P D vwCl (wX x0 Aa Ab) H) (hS : va_S (AX Aa Ab) s.heap H locs) (hl : lv_has ls 2 []) : W p l e rmX5_bump s m args below meth c H locs 0 0 (MQ below (Qcg (PXi x0 Aa Ab cy D Q) (AX Aa Ab)) args s 0 0 (AX Aa Ab)) (F0 m 34 ls []) := by
  have hx := C.1
  have hb := C.2.1
  refine lv_iconst (v := -1) hx hb dX5_bump_34 (by decide) ?_
  exact endI C hS ⟨_, _, _, _, _, rfl, h, hPa, hPb, hPx⟩ dX5_bump_35
def wp_X5_bump (σa : Rg) (μa : Ar) (σb : Rg) (μb : Ar) (x1 : Int32) (Q : Int32 → Rg → Ar → Rg → Ar → Prop) : Prop := wp_X4_isOn σa μa  (fun r4 σa4 μa4 => ((r4 = 0 → wb_X5_bump_34 Q σa4 μa4 σb μb) ∧ (¬ r4 = 0 → ((¬ (σa4 15) = 0 → wb_X5_bump_34 Q σa4 μa4 σb μb) ∧ ((σa4 15) = 0 → wp_X5_within x1 (32 : Int32) (47 : Int32) (fun r28 => ((¬ r28 = 0 → wp_X4_countUp σa4 μa4 x1 (fun r41 σa41 μa41 => Q r41 σa41 μa41 σb μb)) ∧ (r28 = 0 → wb_X5_bump_34 Q σa4 μa4 σb μb))))))))
set_option maxHeartbeats 4000000 in
set_option maxRecDepth 100000 in
theorem ct_X5_bump (l : Launch) (D : va_G) (cy : ClassId) (x0 : Nat) (Aa Ab : Nat → Nat) (hap : apX x0 Aa Ab) {σa : Rg} {μa : Ar} {σb : Rg} {μb : Ar} {x1 : Int32} {Q : Int32 → Rg → Ar → Rg → Ar → Prop} (h : wp_X5_bump σa μa σb μb x1 Q) : Ct l yX5_bump cX5_bump 2 (some FieldType.int) rmX5_bump D [(cy, .int)] (fun H => va_P D vwCl (wS Aa cy σa μa) H ∧ va_P D vwCl (wS Ab cy σb μb) H ∧ va_P D vwCl (wX x0 Aa Ab) H) [.ref x0, .int x1] (AX Aa Ab) (PXi x0 Aa Ab cy D Q) := by
  refine Ct.of (by decide) (Nat.le_of_ble_eq_true rfl) ?_
  intro p e s m below meth c ls C hP hl
  obtain ⟨hPa, hPb, hPx⟩ := hP
  have hl : lv_has ls 2 [(0, .ref x0), (1, .int x1)] := hl
  have hS : va_S (AX Aa Ab) s.heap s.heap [] := va_S.rf
  have hx := C.1
  have hb := C.2.1
  refine lv_aload_n hx hb dX5_bump_0 rfl (lv_at hl 0 rfl) ?_
  refine gX_store C hPx (C.2.2.2.2.2.2.1 _ wq_336) dX5_bump_1 ?_
  refine kWi (rnVN C (ct_X4_isOn l D cy Aa hap.1 h) yv_X4_isOn wn_366 ⟨rfl, rfl⟩ ⟨Nat.le_of_ble_eq_true rfl, Nat.le_of_ble_eq_true rfl⟩ ⟨Nat.zero_le _, Nat.zero_le _⟩ (vS_store C hPa) hPa hl.1 rfl rfl (Nat.le_of_ble_eq_true rfl) dX5_bump_4) hS (fun _ h => Or.inl h) (fun r4 σa4 μa4 H locs h hPa hk hS => ?_)
  have hPb := keepW rS hap.2.2.1 hPb hk
  have hPx := keepW (rX (x0 := x0) (Aa := Aa) (Ab := Ab)) (fun _ _ => hap.2.2.2.2.1) hPx hk
  refine lv_if_eq (tgt := 34) hx hb dX5_bump_7 (by decide) (fun hc => ?_) (fun hc => ?_)
  · have h := h.1 hc
    exact wk_X5_bump_34 C hap h hPa hPb hPx hS (lv_sub hl [] rfl)
  · have h := h.2 hc
    refine lv_aload_n hx hb dX5_bump_10 rfl (lv_at hl 0 rfl) ?_
    refine gX_store C hPx (C.2.2.2.2.2.2.1 _ wq_336) dX5_bump_11 ?_
    refine gnS_store_change C hPa (NW.use C.2.2.2.2.2.2.2.2 wn_314) dX5_bump_14 ?_
    refine gnS_change_begun C hPa (NW.use C.2.2.2.2.2.2.2.2 wn_267) dX5_bump_17 ?_
    refine lv_if_ne (tgt := 34) hx hb dX5_bump_20 (by decide) (fun hc => ?_) (fun hc => ?_)
    · have h := h.1 hc
      exact wk_X5_bump_34 C hap h hPa hPb hPx hS (lv_sub hl [] rfl)
    · have h := h.2 hc
      refine lv_iload_n hx hb dX5_bump_23 rfl (lv_at hl 1 rfl) ?_
      refine lv_bipush (v := 32) hx hb dX5_bump_24 (by decide) ?_
      refine lv_bipush (v := 47) hx hb dX5_bump_26 (by decide) ?_
      refine kNi (rnS (C.none) (ct_X5_within l D h) ys_X5_within wq_347 ⟨rfl, rfl⟩ ⟨Nat.le_of_ble_eq_true rfl, Nat.le_of_ble_eq_true rfl⟩ ⟨Nat.zero_le _, Nat.zero_le _⟩ trivial hl.1 rfl rfl (Nat.le_of_ble_eq_true rfl) dX5_bump_28) hS (fun _ h => h.elim) (fun r28 H locs h hk hS => ?_)
      have hPa := keepN hPa hk
      have hPb := keepN hPb hk
      have hPx := keepN hPx hk
      refine lv_if_ne (tgt := 36) hx hb dX5_bump_31 (by decide) (fun hc => ?_) (fun hc => ?_)
      · have h := h.1 hc
        refine lv_aload_n hx hb dX5_bump_36 rfl (lv_at hl 0 rfl) ?_
        refine gX_store C hPx (C.2.2.2.2.2.2.1 _ wq_336) dX5_bump_37 ?_
        refine lv_iload_n hx hb dX5_bump_40 rfl (lv_at hl 1 rfl) ?_
        refine kWi (rnVN C (ct_X4_countUp l D cy Aa hap.1 h) yv_X4_countUp wn_642 ⟨rfl, rfl⟩ ⟨Nat.le_of_ble_eq_true rfl, Nat.le_of_ble_eq_true rfl⟩ ⟨Nat.zero_le _, Nat.zero_le _⟩ (vS_store C hPa) hPa hl.1 rfl rfl (Nat.le_of_ble_eq_true rfl) dX5_bump_41) hS (fun _ h => Or.inl h) (fun r41 σa41 μa41 H locs h hPa hk hS => ?_)
        have hPb := keepW rS hap.2.2.1 hPb hk
        have hPx := keepW (rX (x0 := x0) (Aa := Aa) (Ab := Ab)) (fun _ _ => hap.2.2.2.2.1) hPx hk
        exact endI C hS ⟨_, _, _, _, _, rfl, h, hPa, hPb, hPx⟩ dX5_bump_44
      · have h := h.2 hc
        exact wk_X5_bump_34 C hap h hPa hPb hPx hS (lv_sub hl [] rfl)
abbrev rmX5_begin : Room := { frames := 1, cells := 0, slots := 0, locals := 20 }
def wb_X5_begin_23 (Q : Int32 → Rg → Ar → Rg → Ar → Prop) (σa : Rg) (μa : Ar) (σb : Rg) (μb : Ar) : Prop := Q (0 : Int32) σa μa σb μb
set_option maxHeartbeats 4000000 in
set_option maxRecDepth 100000 in
theorem wk_X5_begin_23 {p : Program} {l : Launch} {e : Env} {s : State} {m : MethodId} {args : Array Value} {below : List Frame} {meth : Method} {c : Code} {D : va_G} {cy : ClassId} {x0 : Nat} {Aa Ab : Nat → Nat} (C : Cx p s m args meth c RX5 cX5_begin 1 (some FieldType.boolean) D [(cy, .int)]) (hap : apX x0 Aa Ab) {Q : Int32 → Rg → Ar → Rg → Ar → Prop} {σa : Rg} {μa : Ar} {σb : Rg} {μb : Ar}  {H : Heap} {locs : List Loc} {ls : Array Slot} (h : wb_X5_begin_23 Q σa μa σb μb) (hPa : va_P D vwCl (wS Aa cy σa μa) H) (hPb : va_P D vwCl (wS Ab cy σb μb) H) (hPx : va_P D vwCl (wX x0 Aa Ab) H) (hS : va_S (AX Aa Ab) s.heap H locs) (hl : lv_has ls 1 []) : W p l e rmX5_begin s m args below meth c H locs 0 0 (MQ below (Qcg (PXi x0 Aa Ab cy D Q) (AX Aa Ab)) args s 0 0 (AX Aa Ab)) (F0 m 23 ls []) := by
  have hx := C.1
  have hb := C.2.1
  refine lv_iconst (v := 0) hx hb dX5_begin_23 (by decide) ?_
  exact endZ C hS bz0 ⟨_, _, _, _, _, rfl, h, hPa, hPb, hPx⟩ dX5_begin_24
def wp_X5_begin (σa : Rg) (μa : Ar) (σb : Rg) (μb : Ar) (Q : Int32 → Rg → Ar → Rg → Ar → Prop) : Prop := wp_X4_isOn σa μa  (fun r4 σa4 μa4 => ((r4 = 0 → wb_X5_begin_23 Q σa4 μa4 σb μb) ∧ (¬ r4 = 0 → (((σa4 15) = 0 → wp_X0_start σa4 μa4  (fun σa32 μa32 => Q (1 : Int32) σa32 μa32 σb μb)) ∧ (¬ (σa4 15) = 0 → wb_X5_begin_23 Q σa4 μa4 σb μb)))))
set_option maxHeartbeats 4000000 in
set_option maxRecDepth 100000 in
theorem ct_X5_begin (l : Launch) (D : va_G) (cy : ClassId) (x0 : Nat) (Aa Ab : Nat → Nat) (hap : apX x0 Aa Ab) {σa : Rg} {μa : Ar} {σb : Rg} {μb : Ar}  {Q : Int32 → Rg → Ar → Rg → Ar → Prop} (h : wp_X5_begin σa μa σb μb  Q) : Ct l yX5_begin cX5_begin 1 (some FieldType.boolean) rmX5_begin D [(cy, .int)] (fun H => va_P D vwCl (wS Aa cy σa μa) H ∧ va_P D vwCl (wS Ab cy σb μb) H ∧ va_P D vwCl (wX x0 Aa Ab) H) [.ref x0] (AX Aa Ab) (PXi x0 Aa Ab cy D Q) := by
  refine Ct.of (by decide) (Nat.le_of_ble_eq_true rfl) ?_
  intro p e s m below meth c ls C hP hl
  obtain ⟨hPa, hPb, hPx⟩ := hP
  have hl : lv_has ls 1 [(0, .ref x0)] := hl
  have hS : va_S (AX Aa Ab) s.heap s.heap [] := va_S.rf
  have hx := C.1
  have hb := C.2.1
  refine lv_aload_n hx hb dX5_begin_0 rfl (lv_at hl 0 rfl) ?_
  refine gX_store C hPx (C.2.2.2.2.2.2.1 _ wq_336) dX5_begin_1 ?_
  refine kWi (rnVN C (ct_X4_isOn l D cy Aa hap.1 h) yv_X4_isOn wn_366 ⟨rfl, rfl⟩ ⟨Nat.le_of_ble_eq_true rfl, Nat.le_of_ble_eq_true rfl⟩ ⟨Nat.zero_le _, Nat.zero_le _⟩ (vS_store C hPa) hPa hl.1 rfl rfl (Nat.le_of_ble_eq_true rfl) dX5_begin_4) hS (fun _ h => Or.inl h) (fun r4 σa4 μa4 H locs h hPa hk hS => ?_)
  have hPb := keepW rS hap.2.2.1 hPb hk
  have hPx := keepW (rX (x0 := x0) (Aa := Aa) (Ab := Ab)) (fun _ _ => hap.2.2.2.2.1) hPx hk
  refine lv_if_eq (tgt := 23) hx hb dX5_begin_7 (by decide) (fun hc => ?_) (fun hc => ?_)
  · have h := h.1 hc
    exact wk_X5_begin_23 C hap h hPa hPb hPx hS (lv_sub hl [] rfl)
  · have h := h.2 hc
    refine lv_aload_n hx hb dX5_begin_10 rfl (lv_at hl 0 rfl) ?_
    refine gX_store C hPx (C.2.2.2.2.2.2.1 _ wq_336) dX5_begin_11 ?_
    refine gnS_store_change C hPa (NW.use C.2.2.2.2.2.2.2.2 wn_314) dX5_begin_14 ?_
    refine gnS_change_begun C hPa (NW.use C.2.2.2.2.2.2.2.2 wn_267) dX5_begin_17 ?_
    refine lv_if_eq (tgt := 25) hx hb dX5_begin_20 (by decide) (fun hc => ?_) (fun hc => ?_)
    · have h := h.1 hc
      refine lv_aload_n hx hb dX5_begin_25 rfl (lv_at hl 0 rfl) ?_
      refine gX_store C hPx (C.2.2.2.2.2.2.1 _ wq_336) dX5_begin_26 ?_
      refine gnS_store_change C hPa (NW.use C.2.2.2.2.2.2.2.2 wn_314) dX5_begin_29 ?_
      refine kWv (rnVN C (ct_X0_start l D cy Aa hap.1 h) yv_X0_start wn_664 ⟨rfl, rfl⟩ ⟨Nat.le_of_ble_eq_true rfl, Nat.le_of_ble_eq_true rfl⟩ ⟨Nat.zero_le _, Nat.zero_le _⟩ (vS_change C hPa) hPa hl.1 rfl rfl (Nat.le_of_ble_eq_true rfl) dX5_begin_32) hS (fun _ h => Or.inl h) (fun σa32 μa32 H locs h hPa hk hS => ?_)
      have hPb := keepW rS hap.2.2.1 hPb hk
      have hPx := keepW (rX (x0 := x0) (Aa := Aa) (Ab := Ab)) (fun _ _ => hap.2.2.2.2.1) hPx hk
      refine lv_iconst (v := 1) hx hb dX5_begin_35 (by decide) ?_
      exact endZ C hS bz1 ⟨_, _, _, _, _, rfl, h, hPa, hPb, hPx⟩ dX5_begin_36
    · have h := h.2 hc
      exact wk_X5_begin_23 C hap h hPa hPb hPx hS (lv_sub hl [] rfl)
abbrev rmX5_commit : Room := { frames := 6, cells := 0, slots := 0, locals := 139 }
def wp_X5_commit (σa : Rg) (μa : Ar) (σb : Rg) (μb : Ar) (Q : Int32 → Rg → Ar → Rg → Ar → Prop) : Prop := ((¬ (σa 15) = 0 → ((¬ (σa 16) = 0 → wp_X4_writeChange σa μa  (fun r44 σa44 μa44 => Q r44 σa44 μa44 σb μb)) ∧ ((σa 16) = 0 → wp_X0_forget σa μa  (fun σa35 μa35 => Q (-1 : Int32) σa35 μa35 σb μb)))) ∧ ((σa 15) = 0 → Q (-1 : Int32) σa μa σb μb))
set_option maxHeartbeats 4000000 in
set_option maxRecDepth 100000 in
theorem ct_X5_commit (l : Launch) (D : va_G) (cy : ClassId) (x0 : Nat) (Aa Ab : Nat → Nat) (hap : apX x0 Aa Ab) {σa : Rg} {μa : Ar} {σb : Rg} {μb : Ar}  {Q : Int32 → Rg → Ar → Rg → Ar → Prop} (h : wp_X5_commit σa μa σb μb  Q) : Ct l yX5_commit cX5_commit 1 (some FieldType.int) rmX5_commit D [(cy, .int)] (fun H => va_P D vwCl (wS Aa cy σa μa) H ∧ va_P D vwCl (wS Ab cy σb μb) H ∧ va_P D vwCl (wX x0 Aa Ab) H) [.ref x0] (AX Aa Ab) (PXi x0 Aa Ab cy D Q) := by
  refine Ct.of (by decide) (Nat.le_of_ble_eq_true rfl) ?_
  intro p e s m below meth c ls C hP hl
  obtain ⟨hPa, hPb, hPx⟩ := hP
  have hl : lv_has ls 1 [(0, .ref x0)] := hl
  have hS : va_S (AX Aa Ab) s.heap s.heap [] := va_S.rf
  have hx := C.1
  have hb := C.2.1
  refine lv_aload_n hx hb dX5_commit_0 rfl (lv_at hl 0 rfl) ?_
  refine gX_store C hPx (C.2.2.2.2.2.2.1 _ wq_336) dX5_commit_1 ?_
  refine gnS_store_change C hPa (NW.use C.2.2.2.2.2.2.2.2 wn_314) dX5_commit_4 ?_
  refine gnS_change_begun C hPa (NW.use C.2.2.2.2.2.2.2.2 wn_267) dX5_commit_7 ?_
  refine lv_if_ne (tgt := 15) hx hb dX5_commit_10 (by decide) (fun hc => ?_) (fun hc => ?_)
  · have h := h.1 hc
    refine lv_aload_n hx hb dX5_commit_15 rfl (lv_at hl 0 rfl) ?_
    refine gX_store C hPx (C.2.2.2.2.2.2.1 _ wq_336) dX5_commit_16 ?_
    refine gnS_store_change C hPa (NW.use C.2.2.2.2.2.2.2.2 wn_314) dX5_commit_19 ?_
    refine gnS_change_told C hPa (NW.use C.2.2.2.2.2.2.2.2 wn_270) dX5_commit_22 ?_
    refine lv_if_ne (tgt := 40) hx hb dX5_commit_25 (by decide) (fun hc => ?_) (fun hc => ?_)
    · have h := h.1 hc
      refine lv_aload_n hx hb dX5_commit_40 rfl (lv_at hl 0 rfl) ?_
      refine gX_store C hPx (C.2.2.2.2.2.2.1 _ wq_336) dX5_commit_41 ?_
      refine kWi (rnVN C (ct_X4_writeChange l D cy Aa hap.1 h) yv_X4_writeChange wn_673 ⟨rfl, rfl⟩ ⟨Nat.le_of_ble_eq_true rfl, Nat.le_of_ble_eq_true rfl⟩ ⟨Nat.zero_le _, Nat.zero_le _⟩ (vS_store C hPa) hPa hl.1 rfl rfl (Nat.le_of_ble_eq_true rfl) dX5_commit_44) hS (fun _ h => Or.inl h) (fun r44 σa44 μa44 H locs h hPa hk hS => ?_)
      have hPb := keepW rS hap.2.2.1 hPb hk
      have hPx := keepW (rX (x0 := x0) (Aa := Aa) (Ab := Ab)) (fun _ _ => hap.2.2.2.2.1) hPx hk
      exact endI C hS ⟨_, _, _, _, _, rfl, h, hPa, hPb, hPx⟩ dX5_commit_47
    · have h := h.2 hc
      refine lv_aload_n hx hb dX5_commit_28 rfl (lv_at hl 0 rfl) ?_
      refine gX_store C hPx (C.2.2.2.2.2.2.1 _ wq_336) dX5_commit_29 ?_
      refine gnS_store_change C hPa (NW.use C.2.2.2.2.2.2.2.2 wn_314) dX5_commit_32 ?_
      refine kWv (rnVN C (ct_X0_forget l D cy Aa hap.1 h) yv_X0_forget wn_672 ⟨rfl, rfl⟩ ⟨Nat.le_of_ble_eq_true rfl, Nat.le_of_ble_eq_true rfl⟩ ⟨Nat.zero_le _, Nat.zero_le _⟩ (vS_change C hPa) hPa hl.1 rfl rfl (Nat.le_of_ble_eq_true rfl) dX5_commit_35) hS (fun _ h => Or.inl h) (fun σa35 μa35 H locs h hPa hk hS => ?_)
      have hPb := keepW rS hap.2.2.1 hPb hk
      have hPx := keepW (rX (x0 := x0) (Aa := Aa) (Ab := Ab)) (fun _ _ => hap.2.2.2.2.1) hPx hk
      refine lv_iconst (v := -1) hx hb dX5_commit_38 (by decide) ?_
      exact endI C hS ⟨_, _, _, _, _, rfl, h, hPa, hPb, hPx⟩ dX5_commit_39
  · have h := h.2 hc
    refine lv_iconst (v := -1) hx hb dX5_commit_13 (by decide) ?_
    exact endI C hS ⟨_, _, _, _, _, rfl, h, hPa, hPb, hPx⟩ dX5_commit_14
abbrev rmX5_abort : Room := { frames := 1, cells := 0, slots := 0, locals := 20 }
def wp_X5_abort (σa : Rg) (μa : Ar) (σb : Rg) (μb : Ar) (Q : Int32 → Rg → Ar → Rg → Ar → Prop) : Prop := ((¬ (σa 15) = 0 → ∀ y25 : Int32, y25 = (σa 16) → (wp_X0_forget σa μa  (fun σa33 μa33 => Q y25 σa33 μa33 σb μb))) ∧ ((σa 15) = 0 → Q (-1 : Int32) σa μa σb μb))
set_option maxHeartbeats 4000000 in
set_option maxRecDepth 100000 in
theorem ct_X5_abort (l : Launch) (D : va_G) (cy : ClassId) (x0 : Nat) (Aa Ab : Nat → Nat) (hap : apX x0 Aa Ab) {σa : Rg} {μa : Ar} {σb : Rg} {μb : Ar}  {Q : Int32 → Rg → Ar → Rg → Ar → Prop} (h : wp_X5_abort σa μa σb μb  Q) : Ct l yX5_abort cX5_abort 2 (some FieldType.int) rmX5_abort D [(cy, .int)] (fun H => va_P D vwCl (wS Aa cy σa μa) H ∧ va_P D vwCl (wS Ab cy σb μb) H ∧ va_P D vwCl (wX x0 Aa Ab) H) [.ref x0] (AX Aa Ab) (PXi x0 Aa Ab cy D Q) := by
  refine Ct.of (by decide) (Nat.le_of_ble_eq_true rfl) ?_
  intro p e s m below meth c ls C hP hl
  obtain ⟨hPa, hPb, hPx⟩ := hP
  have hl : lv_has ls 2 [(0, .ref x0)] := hl
  have hS : va_S (AX Aa Ab) s.heap s.heap [] := va_S.rf
  have hx := C.1
  have hb := C.2.1
  refine lv_aload_n hx hb dX5_abort_0 rfl (lv_at hl 0 rfl) ?_
  refine gX_store C hPx (C.2.2.2.2.2.2.1 _ wq_336) dX5_abort_1 ?_
  refine gnS_store_change C hPa (NW.use C.2.2.2.2.2.2.2.2 wn_314) dX5_abort_4 ?_
  refine gnS_change_begun C hPa (NW.use C.2.2.2.2.2.2.2.2 wn_267) dX5_abort_7 ?_
  refine lv_if_ne (tgt := 15) hx hb dX5_abort_10 (by decide) (fun hc => ?_) (fun hc => ?_)
  · have h := h.1 hc
    refine lv_aload_n hx hb dX5_abort_15 rfl (lv_at hl 0 rfl) ?_
    refine gX_store C hPx (C.2.2.2.2.2.2.1 _ wq_336) dX5_abort_16 ?_
    refine gnS_store_change C hPa (NW.use C.2.2.2.2.2.2.2.2 wn_314) dX5_abort_19 ?_
    refine gnS_change_told C hPa (NW.use C.2.2.2.2.2.2.2.2 wn_270) dX5_abort_22 ?_
    refine lv_topi (fun y25 e25 => ?_)
    have h := h y25 e25
    refine lv_istore_n (lv' := [(1, .int y25), (0, .ref x0)]) hx hb dX5_abort_25 rfl hl (by decide) rfl (fun ls hl => ?_)
    refine lv_aload_n hx hb dX5_abort_26 rfl (lv_at hl 1 rfl) ?_
    refine gX_store C hPx (C.2.2.2.2.2.2.1 _ wq_336) dX5_abort_27 ?_
    refine gnS_store_change C hPa (NW.use C.2.2.2.2.2.2.2.2 wn_314) dX5_abort_30 ?_
    refine kWv (rnVN C (ct_X0_forget l D cy Aa hap.1 h) yv_X0_forget wn_672 ⟨rfl, rfl⟩ ⟨Nat.le_of_ble_eq_true rfl, Nat.le_of_ble_eq_true rfl⟩ ⟨Nat.zero_le _, Nat.zero_le _⟩ (vS_change C hPa) hPa hl.1 rfl rfl (Nat.le_of_ble_eq_true rfl) dX5_abort_33) hS (fun _ h => Or.inl h) (fun σa33 μa33 H locs h hPa hk hS => ?_)
    have hPb := keepW rS hap.2.2.1 hPb hk
    have hPx := keepW (rX (x0 := x0) (Aa := Aa) (Ab := Ab)) (fun _ _ => hap.2.2.2.2.1) hPx hk
    refine lv_iload_n hx hb dX5_abort_36 rfl (lv_at hl 0 rfl) ?_
    exact endI C hS ⟨_, _, _, _, _, rfl, h, hPa, hPb, hPx⟩ dX5_abort_37
  · have h := h.2 hc
    refine lv_iconst (v := -1) hx hb dX5_abort_13 (by decide) ?_
    exact endI C hS ⟨_, _, _, _, _, rfl, h, hPa, hPb, hPx⟩ dX5_abort_14
abbrev rmX5_get : Room := { frames := 5, cells := 0, slots := 0, locals := 117 }
def wb_X5_get_17 (Q : Int64 → Rg → Ar → Rg → Ar → Prop) (σa : Rg) (μa : Ar) (σb : Rg) (μb : Ar) : Prop := Q (-1 : Int64) σa μa σb μb
set_option maxHeartbeats 4000000 in
set_option maxRecDepth 100000 in
theorem wk_X5_get_17 {p : Program} {l : Launch} {e : Env} {s : State} {m : MethodId} {args : Array Value} {below : List Frame} {meth : Method} {c : Code} {D : va_G} {cy : ClassId} {x0 : Nat} {Aa Ab : Nat → Nat} (C : Cx p s m args meth c RX5 cX5_get 2 (some FieldType.long) D [(cy, .int)]) (hap : apX x0 Aa Ab) {Q : Int64 → Rg → Ar → Rg → Ar → Prop} {σa : Rg} {μa : Ar} {σb : Rg} {μb : Ar}  {H : Heap} {locs : List Loc} {ls : Array Slot} (h : wb_X5_get_17 Q σa μa σb μb) (hPa : va_P D vwCl (wS Aa cy σa μa) H) (hPb : va_P D vwCl (wS Ab cy σb μb) H) (hPx : va_P D vwCl (wX x0 Aa Ab) H) (hS : va_S (AX Aa Ab) s.heap H locs) (hl : lv_has ls 2 []) : W p l e rmX5_get s m args below meth c H locs 0 0 (MQ below (Qcg (PXl x0 Aa Ab cy D Q) (AX Aa Ab)) args s 0 0 (AX Aa Ab)) (F0 m 17 ls []) := by
  have hx := C.1
  have hb := C.2.1
  refine lv_ldc2 hx hb C.2.2.2.1 (C.2.2.2.2.2.2.1 _ wq_694) dX5_get_17 ?_
  exact endL C hS ⟨_, _, _, _, _, rfl, h, hPa, hPb, hPx⟩ dX5_get_20
def wp_X5_get (σa : Rg) (μa : Ar) (σb : Rg) (μb : Ar) (x1 : Int32) (Q : Int64 → Rg → Ar → Rg → Ar → Prop) : Prop := wp_X4_isOn σa μa  (fun r4 σa4 μa4 => ((r4 = 0 → wb_X5_get_17 Q σa4 μa4 σb μb) ∧ (¬ r4 = 0 → wp_X5_isTag x1 (fun r11 => ((¬ r11 = 0 → wp_X4_look σa4 μa4  (fun σa25 μa25 => wp_X3_newestValue σa25 μa25 x1 (fun r29 σa29 μa29 => Q r29 σa29 μa29 σb μb))) ∧ (r11 = 0 → wb_X5_get_17 Q σa4 μa4 σb μb))))))
set_option maxHeartbeats 4000000 in
set_option maxRecDepth 100000 in
theorem ct_X5_get (l : Launch) (D : va_G) (cy : ClassId) (x0 : Nat) (Aa Ab : Nat → Nat) (hap : apX x0 Aa Ab) {σa : Rg} {μa : Ar} {σb : Rg} {μb : Ar} {x1 : Int32} {Q : Int64 → Rg → Ar → Rg → Ar → Prop} (h : wp_X5_get σa μa σb μb x1 Q) : Ct l yX5_get cX5_get 2 (some FieldType.long) rmX5_get D [(cy, .int)] (fun H => va_P D vwCl (wS Aa cy σa μa) H ∧ va_P D vwCl (wS Ab cy σb μb) H ∧ va_P D vwCl (wX x0 Aa Ab) H) [.ref x0, .int x1] (AX Aa Ab) (PXl x0 Aa Ab cy D Q) := by
  refine Ct.of (by decide) (Nat.le_of_ble_eq_true rfl) ?_
  intro p e s m below meth c ls C hP hl
  obtain ⟨hPa, hPb, hPx⟩ := hP
  have hl : lv_has ls 2 [(0, .ref x0), (1, .int x1)] := hl
  have hS : va_S (AX Aa Ab) s.heap s.heap [] := va_S.rf
  have hx := C.1
  have hb := C.2.1
  refine lv_aload_n hx hb dX5_get_0 rfl (lv_at hl 0 rfl) ?_
  refine gX_store C hPx (C.2.2.2.2.2.2.1 _ wq_336) dX5_get_1 ?_
  refine kWi (rnVN C (ct_X4_isOn l D cy Aa hap.1 h) yv_X4_isOn wn_366 ⟨rfl, rfl⟩ ⟨Nat.le_of_ble_eq_true rfl, Nat.le_of_ble_eq_true rfl⟩ ⟨Nat.zero_le _, Nat.zero_le _⟩ (vS_store C hPa) hPa hl.1 rfl rfl (Nat.le_of_ble_eq_true rfl) dX5_get_4) hS (fun _ h => Or.inl h) (fun r4 σa4 μa4 H locs h hPa hk hS => ?_)
  have hPb := keepW rS hap.2.2.1 hPb hk
  have hPx := keepW (rX (x0 := x0) (Aa := Aa) (Ab := Ab)) (fun _ _ => hap.2.2.2.2.1) hPx hk
  refine lv_if_eq (tgt := 17) hx hb dX5_get_7 (by decide) (fun hc => ?_) (fun hc => ?_)
  · have h := h.1 hc
    exact wk_X5_get_17 C hap h hPa hPb hPx hS (lv_sub hl [] rfl)
  · have h := h.2 hc
    refine lv_iload_n hx hb dX5_get_10 rfl (lv_at hl 1 rfl) ?_
    refine kNi (rnS (C.none) (ct_X5_isTag l D h) ys_X5_isTag wq_693 ⟨rfl, rfl⟩ ⟨Nat.le_of_ble_eq_true rfl, Nat.le_of_ble_eq_true rfl⟩ ⟨Nat.zero_le _, Nat.zero_le _⟩ trivial hl.1 rfl rfl (Nat.le_of_ble_eq_true rfl) dX5_get_11) hS (fun _ h => h.elim) (fun r11 H locs h hk hS => ?_)
    have hPa := keepN hPa hk
    have hPb := keepN hPb hk
    have hPx := keepN hPx hk
    refine lv_if_ne (tgt := 21) hx hb dX5_get_14 (by decide) (fun hc => ?_) (fun hc => ?_)
    · have h := h.1 hc
      refine lv_aload_n hx hb dX5_get_21 rfl (lv_at hl 0 rfl) ?_
      refine gX_store C hPx (C.2.2.2.2.2.2.1 _ wq_336) dX5_get_22 ?_
      refine kWr (rnVN C (ct_X4_look l D cy Aa hap.1 h) yv_X4_look wn_695 ⟨rfl, rfl⟩ ⟨Nat.le_of_ble_eq_true rfl, Nat.le_of_ble_eq_true rfl⟩ ⟨Nat.zero_le _, Nat.zero_le _⟩ (vS_store C hPa) hPa hl.1 rfl rfl (Nat.le_of_ble_eq_true rfl) dX5_get_25) hS (fun _ h => Or.inl h) (fun σa25 μa25 H locs h hPa hk hS => ?_)
      have hPb := keepW rS hap.2.2.1 hPb hk
      have hPx := keepW (rX (x0 := x0) (Aa := Aa) (Ab := Ab)) (fun _ _ => hap.2.2.2.2.1) hPx hk
      refine lv_iload_n hx hb dX5_get_28 rfl (lv_at hl 1 rfl) ?_
      refine kWl (rnVN C (ct_X3_newestValue l D cy Aa hap.1 h) yv_X3_newestValue wn_696 ⟨rfl, rfl⟩ ⟨Nat.le_of_ble_eq_true rfl, Nat.le_of_ble_eq_true rfl⟩ ⟨Nat.zero_le _, Nat.zero_le _⟩ (vS_reading C hPa) hPa hl.1 rfl rfl (Nat.le_of_ble_eq_true rfl) dX5_get_29) hS (fun _ h => Or.inl h) (fun r29 σa29 μa29 H locs h hPa hk hS => ?_)
      have hPb := keepW rS hap.2.2.1 hPb hk
      have hPx := keepW (rX (x0 := x0) (Aa := Aa) (Ab := Ab)) (fun _ _ => hap.2.2.2.2.1) hPx hk
      exact endL C hS ⟨_, _, _, _, _, rfl, h, hPa, hPb, hPx⟩ dX5_get_32
    · have h := h.2 hc
      exact wk_X5_get_17 C hap h hPa hPb hPx hS (lv_sub hl [] rfl)
abbrev rmX5_length : Room := { frames := 5, cells := 0, slots := 0, locals := 117 }
def wb_X5_length_17 (Q : Int32 → Rg → Ar → Rg → Ar → Prop) (σa : Rg) (μa : Ar) (σb : Rg) (μb : Ar) : Prop := Q (-1 : Int32) σa μa σb μb
set_option maxHeartbeats 4000000 in
set_option maxRecDepth 100000 in
theorem wk_X5_length_17 {p : Program} {l : Launch} {e : Env} {s : State} {m : MethodId} {args : Array Value} {below : List Frame} {meth : Method} {c : Code} {D : va_G} {cy : ClassId} {x0 : Nat} {Aa Ab : Nat → Nat} (C : Cx p s m args meth c RX5 cX5_length 2 (some FieldType.int) D [(cy, .int)]) (hap : apX x0 Aa Ab) {Q : Int32 → Rg → Ar → Rg → Ar → Prop} {σa : Rg} {μa : Ar} {σb : Rg} {μb : Ar}  {H : Heap} {locs : List Loc} {ls : Array Slot} (h : wb_X5_length_17 Q σa μa σb μb) (hPa : va_P D vwCl (wS Aa cy σa μa) H) (hPb : va_P D vwCl (wS Ab cy σb μb) H) (hPx : va_P D vwCl (wX x0 Aa Ab) H) (hS : va_S (AX Aa Ab) s.heap H locs) (hl : lv_has ls 2 []) : W p l e rmX5_length s m args below meth c H locs 0 0 (MQ below (Qcg (PXi x0 Aa Ab cy D Q) (AX Aa Ab)) args s 0 0 (AX Aa Ab)) (F0 m 17 ls []) := by
  have hx := C.1
  have hb := C.2.1
  refine lv_iconst (v := -1) hx hb dX5_length_17 (by decide) ?_
  exact endI C hS ⟨_, _, _, _, _, rfl, h, hPa, hPb, hPx⟩ dX5_length_18
def wp_X5_length (σa : Rg) (μa : Ar) (σb : Rg) (μb : Ar) (x1 : Int32) (Q : Int32 → Rg → Ar → Rg → Ar → Prop) : Prop := wp_X4_isOn σa μa  (fun r4 σa4 μa4 => ((r4 = 0 → wb_X5_length_17 Q σa4 μa4 σb μb) ∧ (¬ r4 = 0 → wp_X5_isTag x1 (fun r11 => ((¬ r11 = 0 → wp_X4_look σa4 μa4  (fun σa23 μa23 => wp_X3_newestLength σa23 μa23 x1 (fun r27 σa27 μa27 => Q r27 σa27 μa27 σb μb))) ∧ (r11 = 0 → wb_X5_length_17 Q σa4 μa4 σb μb))))))
set_option maxHeartbeats 4000000 in
set_option maxRecDepth 100000 in
theorem ct_X5_length (l : Launch) (D : va_G) (cy : ClassId) (x0 : Nat) (Aa Ab : Nat → Nat) (hap : apX x0 Aa Ab) {σa : Rg} {μa : Ar} {σb : Rg} {μb : Ar} {x1 : Int32} {Q : Int32 → Rg → Ar → Rg → Ar → Prop} (h : wp_X5_length σa μa σb μb x1 Q) : Ct l yX5_length cX5_length 2 (some FieldType.int) rmX5_length D [(cy, .int)] (fun H => va_P D vwCl (wS Aa cy σa μa) H ∧ va_P D vwCl (wS Ab cy σb μb) H ∧ va_P D vwCl (wX x0 Aa Ab) H) [.ref x0, .int x1] (AX Aa Ab) (PXi x0 Aa Ab cy D Q) := by
  refine Ct.of (by decide) (Nat.le_of_ble_eq_true rfl) ?_
  intro p e s m below meth c ls C hP hl
  obtain ⟨hPa, hPb, hPx⟩ := hP
  have hl : lv_has ls 2 [(0, .ref x0), (1, .int x1)] := hl
  have hS : va_S (AX Aa Ab) s.heap s.heap [] := va_S.rf
  have hx := C.1
  have hb := C.2.1
  refine lv_aload_n hx hb dX5_length_0 rfl (lv_at hl 0 rfl) ?_
  refine gX_store C hPx (C.2.2.2.2.2.2.1 _ wq_336) dX5_length_1 ?_
  refine kWi (rnVN C (ct_X4_isOn l D cy Aa hap.1 h) yv_X4_isOn wn_366 ⟨rfl, rfl⟩ ⟨Nat.le_of_ble_eq_true rfl, Nat.le_of_ble_eq_true rfl⟩ ⟨Nat.zero_le _, Nat.zero_le _⟩ (vS_store C hPa) hPa hl.1 rfl rfl (Nat.le_of_ble_eq_true rfl) dX5_length_4) hS (fun _ h => Or.inl h) (fun r4 σa4 μa4 H locs h hPa hk hS => ?_)
  have hPb := keepW rS hap.2.2.1 hPb hk
  have hPx := keepW (rX (x0 := x0) (Aa := Aa) (Ab := Ab)) (fun _ _ => hap.2.2.2.2.1) hPx hk
  refine lv_if_eq (tgt := 17) hx hb dX5_length_7 (by decide) (fun hc => ?_) (fun hc => ?_)
  · have h := h.1 hc
    exact wk_X5_length_17 C hap h hPa hPb hPx hS (lv_sub hl [] rfl)
  · have h := h.2 hc
    refine lv_iload_n hx hb dX5_length_10 rfl (lv_at hl 1 rfl) ?_
    refine kNi (rnS (C.none) (ct_X5_isTag l D h) ys_X5_isTag wq_693 ⟨rfl, rfl⟩ ⟨Nat.le_of_ble_eq_true rfl, Nat.le_of_ble_eq_true rfl⟩ ⟨Nat.zero_le _, Nat.zero_le _⟩ trivial hl.1 rfl rfl (Nat.le_of_ble_eq_true rfl) dX5_length_11) hS (fun _ h => h.elim) (fun r11 H locs h hk hS => ?_)
    have hPa := keepN hPa hk
    have hPb := keepN hPb hk
    have hPx := keepN hPx hk
    refine lv_if_ne (tgt := 19) hx hb dX5_length_14 (by decide) (fun hc => ?_) (fun hc => ?_)
    · have h := h.1 hc
      refine lv_aload_n hx hb dX5_length_19 rfl (lv_at hl 0 rfl) ?_
      refine gX_store C hPx (C.2.2.2.2.2.2.1 _ wq_336) dX5_length_20 ?_
      refine kWr (rnVN C (ct_X4_look l D cy Aa hap.1 h) yv_X4_look wn_695 ⟨rfl, rfl⟩ ⟨Nat.le_of_ble_eq_true rfl, Nat.le_of_ble_eq_true rfl⟩ ⟨Nat.zero_le _, Nat.zero_le _⟩ (vS_store C hPa) hPa hl.1 rfl rfl (Nat.le_of_ble_eq_true rfl) dX5_length_23) hS (fun _ h => Or.inl h) (fun σa23 μa23 H locs h hPa hk hS => ?_)
      have hPb := keepW rS hap.2.2.1 hPb hk
      have hPx := keepW (rX (x0 := x0) (Aa := Aa) (Ab := Ab)) (fun _ _ => hap.2.2.2.2.1) hPx hk
      refine lv_iload_n hx hb dX5_length_26 rfl (lv_at hl 1 rfl) ?_
      refine kWi (rnVN C (ct_X3_newestLength l D cy Aa hap.1 h) yv_X3_newestLength wn_701 ⟨rfl, rfl⟩ ⟨Nat.le_of_ble_eq_true rfl, Nat.le_of_ble_eq_true rfl⟩ ⟨Nat.zero_le _, Nat.zero_le _⟩ (vS_reading C hPa) hPa hl.1 rfl rfl (Nat.le_of_ble_eq_true rfl) dX5_length_27) hS (fun _ h => Or.inl h) (fun r27 σa27 μa27 H locs h hPa hk hS => ?_)
      have hPb := keepW rS hap.2.2.1 hPb hk
      have hPx := keepW (rX (x0 := x0) (Aa := Aa) (Ab := Ab)) (fun _ _ => hap.2.2.2.2.1) hPx hk
      exact endI C hS ⟨_, _, _, _, _, rfl, h, hPa, hPb, hPx⟩ dX5_length_30
    · have h := h.2 hc
      exact wk_X5_length_17 C hap h hPa hPb hPx hS (lv_sub hl [] rfl)
abbrev rmX5_hand : Room := { frames := 5, cells := 0, slots := 0, locals := 117 }
def wb_X5_hand_21 (Q : Int32 → Rg → Ar → Rg → Ar → Prop) (σa : Rg) (μa : Ar) (σb : Rg) (μb : Ar) (t0 : Int32) : Prop := Q t0 σa μa σb μb
set_option maxHeartbeats 4000000 in
set_option maxRecDepth 100000 in
theorem wk_X5_hand_21 {p : Program} {l : Launch} {e : Env} {s : State} {m : MethodId} {args : Array Value} {below : List Frame} {meth : Method} {c : Code} {D : va_G} {cy : ClassId} {x0 : Nat} {Aa Ab : Nat → Nat} (C : Cx p s m args meth c RX5 cX5_hand 1 (some FieldType.int) D [(cy, .int)]) (hap : apX x0 Aa Ab) {Q : Int32 → Rg → Ar → Rg → Ar → Prop} {σa : Rg} {μa : Ar} {σb : Rg} {μb : Ar} {t0 : Int32} {H : Heap} {locs : List Loc} {ls : Array Slot} (h : wb_X5_hand_21 Q σa μa σb μb t0) (hPa : va_P D vwCl (wS Aa cy σa μa) H) (hPb : va_P D vwCl (wS Ab cy σb μb) H) (hPx : va_P D vwCl (wX x0 Aa Ab) H) (hS : va_S (AX Aa Ab) s.heap H locs) (hl : lv_has ls 1 []) : W p l e rmX5_hand s m args below meth c H locs 0 0 (MQ below (Qcg (PXi x0 Aa Ab cy D Q) (AX Aa Ab)) args s 0 0 (AX Aa Ab)) (F0 m 21 ls [.int t0]) := by
  have hx := C.1
  have hb := C.2.1
  exact endI C hS ⟨_, _, _, _, _, rfl, h, hPa, hPb, hPx⟩ dX5_hand_21
def wp_X5_hand (σa : Rg) (μa : Ar) (σb : Rg) (μb : Ar) (Q : Int32 → Rg → Ar → Rg → Ar → Prop) : Prop := wp_X4_isOn σa μa  (fun r4 σa4 μa4 => ((r4 = 0 → wb_X5_hand_21 Q σa4 μa4 σb μb (-1 : Int32)) ∧ (¬ r4 = 0 → wp_X4_handOverByHand σa4 μa4  (fun r14 σa14 μa14 => wb_X5_hand_21 Q σa14 μa14 σb μb r14))))
set_option maxHeartbeats 4000000 in
set_option maxRecDepth 100000 in
theorem ct_X5_hand (l : Launch) (D : va_G) (cy : ClassId) (x0 : Nat) (Aa Ab : Nat → Nat) (hap : apX x0 Aa Ab) {σa : Rg} {μa : Ar} {σb : Rg} {μb : Ar}  {Q : Int32 → Rg → Ar → Rg → Ar → Prop} (h : wp_X5_hand σa μa σb μb  Q) : Ct l yX5_hand cX5_hand 1 (some FieldType.int) rmX5_hand D [(cy, .int)] (fun H => va_P D vwCl (wS Aa cy σa μa) H ∧ va_P D vwCl (wS Ab cy σb μb) H ∧ va_P D vwCl (wX x0 Aa Ab) H) [.ref x0] (AX Aa Ab) (PXi x0 Aa Ab cy D Q) := by
  refine Ct.of (by decide) (Nat.le_of_ble_eq_true rfl) ?_
  intro p e s m below meth c ls C hP hl
  obtain ⟨hPa, hPb, hPx⟩ := hP
  have hl : lv_has ls 1 [(0, .ref x0)] := hl
  have hS : va_S (AX Aa Ab) s.heap s.heap [] := va_S.rf
  have hx := C.1
  have hb := C.2.1
  refine lv_aload_n hx hb dX5_hand_0 rfl (lv_at hl 0 rfl) ?_
  refine gX_store C hPx (C.2.2.2.2.2.2.1 _ wq_336) dX5_hand_1 ?_
  refine kWi (rnVN C (ct_X4_isOn l D cy Aa hap.1 h) yv_X4_isOn wn_366 ⟨rfl, rfl⟩ ⟨Nat.le_of_ble_eq_true rfl, Nat.le_of_ble_eq_true rfl⟩ ⟨Nat.zero_le _, Nat.zero_le _⟩ (vS_store C hPa) hPa hl.1 rfl rfl (Nat.le_of_ble_eq_true rfl) dX5_hand_4) hS (fun _ h => Or.inl h) (fun r4 σa4 μa4 H locs h hPa hk hS => ?_)
  have hPb := keepW rS hap.2.2.1 hPb hk
  have hPx := keepW (rX (x0 := x0) (Aa := Aa) (Ab := Ab)) (fun _ _ => hap.2.2.2.2.1) hPx hk
  refine lv_if_eq (tgt := 20) hx hb dX5_hand_7 (by decide) (fun hc => ?_) (fun hc => ?_)
  · have h := h.1 hc
    refine lv_iconst (v := -1) hx hb dX5_hand_20 (by decide) ?_
    exact wk_X5_hand_21 C hap h hPa hPb hPx hS (lv_sub hl [] rfl)
  · have h := h.2 hc
    refine lv_aload_n hx hb dX5_hand_10 rfl (lv_at hl 0 rfl) ?_
    refine gX_store C hPx (C.2.2.2.2.2.2.1 _ wq_336) dX5_hand_11 ?_
    refine kWi (rnVN C (ct_X4_handOverByHand l D cy Aa hap.1 h) yv_X4_handOverByHand wn_706 ⟨rfl, rfl⟩ ⟨Nat.le_of_ble_eq_true rfl, Nat.le_of_ble_eq_true rfl⟩ ⟨Nat.zero_le _, Nat.zero_le _⟩ (vS_store C hPa) hPa hl.1 rfl rfl (Nat.le_of_ble_eq_true rfl) dX5_hand_14) hS (fun _ h => Or.inl h) (fun r14 σa14 μa14 H locs h hPa hk hS => ?_)
    have hPb := keepW rS hap.2.2.1 hPb hk
    have hPx := keepW (rX (x0 := x0) (Aa := Aa) (Ab := Ab)) (fun _ _ => hap.2.2.2.2.1) hPx hk
    refine lv_goto (tgt := 21) hx hb dX5_hand_17 (by decide) ?_
    exact wk_X5_hand_21 C hap h hPa hPb hPx hS (lv_sub hl [] rfl)
abbrev rmX5_sector : Room := { frames := 3, cells := 0, slots := 0, locals := 65 }
def wb_X5_sector_84 (Q : Int32 → Rg → Ar → Rg → Ar → Prop) (σa : Rg) (μa : Ar) (σb : Rg) (μb : Ar) (t0 : Int32) : Prop := Q t0 σa μa σb μb
set_option maxHeartbeats 4000000 in
set_option maxRecDepth 100000 in
theorem wk_X5_sector_84 {p : Program} {l : Launch} {e : Env} {s : State} {m : MethodId} {args : Array Value} {below : List Frame} {meth : Method} {c : Code} {D : va_G} {cy : ClassId} {x0 : Nat} {Aa Ab : Nat → Nat} (C : Cx p s m args meth c RX5 cX5_sector 4 (some FieldType.int) D [(cy, .int)]) (hap : apX x0 Aa Ab) {Q : Int32 → Rg → Ar → Rg → Ar → Prop} {σa : Rg} {μa : Ar} {σb : Rg} {μb : Ar} {t0 : Int32} {H : Heap} {locs : List Loc} {ls : Array Slot} (h : wb_X5_sector_84 Q σa μa σb μb t0) (hPa : va_P D vwCl (wS Aa cy σa μa) H) (hPb : va_P D vwCl (wS Ab cy σb μb) H) (hPx : va_P D vwCl (wX x0 Aa Ab) H) (hS : va_S (AX Aa Ab) s.heap H locs) (hl : lv_has ls 4 []) : W p l e rmX5_sector s m args below meth c H locs 0 0 (MQ below (Qcg (PXi x0 Aa Ab cy D Q) (AX Aa Ab)) args s 0 0 (AX Aa Ab)) (F0 m 84 ls [.int t0]) := by
  have hx := C.1
  have hb := C.2.1
  exact endI C hS ⟨_, _, _, _, _, rfl, h, hPa, hPb, hPx⟩ dX5_sector_84
def wb_X5_sector_101 (Q : Int32 → Rg → Ar → Rg → Ar → Prop) (σa : Rg) (μa : Ar) (σb : Rg) (μb : Ar) (t0 : Int32) : Prop := Q t0 σa μa σb μb
set_option maxHeartbeats 4000000 in
set_option maxRecDepth 100000 in
theorem wk_X5_sector_101 {p : Program} {l : Launch} {e : Env} {s : State} {m : MethodId} {args : Array Value} {below : List Frame} {meth : Method} {c : Code} {D : va_G} {cy : ClassId} {x0 : Nat} {Aa Ab : Nat → Nat} (C : Cx p s m args meth c RX5 cX5_sector 4 (some FieldType.int) D [(cy, .int)]) (hap : apX x0 Aa Ab) {Q : Int32 → Rg → Ar → Rg → Ar → Prop} {σa : Rg} {μa : Ar} {σb : Rg} {μb : Ar} {t0 : Int32} {H : Heap} {locs : List Loc} {ls : Array Slot} (h : wb_X5_sector_101 Q σa μa σb μb t0) (hPa : va_P D vwCl (wS Aa cy σa μa) H) (hPb : va_P D vwCl (wS Ab cy σb μb) H) (hPx : va_P D vwCl (wX x0 Aa Ab) H) (hS : va_S (AX Aa Ab) s.heap H locs) (hl : lv_has ls 4 []) : W p l e rmX5_sector s m args below meth c H locs 0 0 (MQ below (Qcg (PXi x0 Aa Ab cy D Q) (AX Aa Ab)) args s 0 0 (AX Aa Ab)) (F0 m 101 ls [.int t0]) := by
  have hx := C.1
  have hb := C.2.1
  exact endI C hS ⟨_, _, _, _, _, rfl, h, hPa, hPb, hPx⟩ dX5_sector_101
def wp_X5_sector (σa : Rg) (μa : Ar) (σb : Rg) (μb : Ar) (x1 : Int32) (x2 : Int32) (Q : Int32 → Rg → Ar → Rg → Ar → Prop) : Prop := wp_X1_hasSector σa μa x1 (fun r10 σa10 μa10 => ((¬ r10 = 0 → (((x2).toInt < 0 ∨ 4 < (x2).toInt → Q (-1 : Int32) σa10 μa10 σb μb) ∧ (x2 = 0 → wp_X1_peek σa10 μa10 x1 (0 : Int32) (fun r55 σa55 μa55 => Q r55 σa55 μa55 σb μb)) ∧ (x2 = 1 → wp_X1_numberOf σa10 μa10 x1 (fun r61 σa61 μa61 => Q r61 σa61 μa61 σb μb)) ∧ (x2 = 2 → wp_X1_erasesOf σa10 μa10 x1 (fun r67 σa67 μa67 => Q r67 σa67 μa67 σb μb)) ∧ (x2 = 3 → wp_X1_isBlank σa10 μa10 x1 (fun r73 σa73 μa73 => ((r73 = 0 → wb_X5_sector_84 Q σa73 μa73 σb μb (0 : Int32)) ∧ (¬ r73 = 0 → wb_X5_sector_84 Q σa73 μa73 σb μb (1 : Int32))))) ∧ (x2 = 4 → ((¬ (σa10 0) = x1 → wb_X5_sector_101 Q σa10 μa10 σb μb (0 : Int32)) ∧ ((σa10 0) = x1 → wb_X5_sector_101 Q σa10 μa10 σb μb (1 : Int32)))))) ∧ (r10 = 0 → Q (-1 : Int32) σa10 μa10 σb μb)))
set_option maxHeartbeats 4000000 in
set_option maxRecDepth 100000 in
theorem ct_X5_sector (l : Launch) (D : va_G) (cy : ClassId) (x0 : Nat) (Aa Ab : Nat → Nat) (hap : apX x0 Aa Ab) {σa : Rg} {μa : Ar} {σb : Rg} {μb : Ar} {x1 : Int32} {x2 : Int32} {Q : Int32 → Rg → Ar → Rg → Ar → Prop} (h : wp_X5_sector σa μa σb μb x1 x2 Q) : Ct l yX5_sector cX5_sector 4 (some FieldType.int) rmX5_sector D [(cy, .int)] (fun H => va_P D vwCl (wS Aa cy σa μa) H ∧ va_P D vwCl (wS Ab cy σb μb) H ∧ va_P D vwCl (wX x0 Aa Ab) H) [.ref x0, .int x1, .int x2] (AX Aa Ab) (PXi x0 Aa Ab cy D Q) := by
  refine Ct.of (by decide) (Nat.le_of_ble_eq_true rfl) ?_
  intro p e s m below meth c ls C hP hl
  obtain ⟨hPa, hPb, hPx⟩ := hP
  have hl : lv_has ls 4 [(0, .ref x0), (1, .int x1), (2, .int x2)] := hl
  have hS : va_S (AX Aa Ab) s.heap s.heap [] := va_S.rf
  have hx := C.1
  have hb := C.2.1
  refine lv_aload_n hx hb dX5_sector_0 rfl (lv_at hl 0 rfl) ?_
  refine gX_store C hPx (C.2.2.2.2.2.2.1 _ wq_336) dX5_sector_1 ?_
  refine gnS_store_chip C hPa (NW.use C.2.2.2.2.2.2.2.2 wn_310) dX5_sector_4 ?_
  refine lv_astore_n (lv' := [(3, .ref (Aa 1)), (0, .ref x0), (1, .int x1), (2, .int x2)]) hx hb dX5_sector_7 rfl hl (by decide) rfl (fun ls hl => ?_)
  refine lv_aload_n hx hb dX5_sector_8 rfl (lv_at hl 0 rfl) ?_
  refine lv_iload_n hx hb dX5_sector_9 rfl (lv_at hl 2 rfl) ?_
  refine kWi (rnVN C (ct_X1_hasSector l D cy Aa hap.1 h) yv_X1_hasSector wn_714 ⟨rfl, rfl⟩ ⟨Nat.le_of_ble_eq_true rfl, Nat.le_of_ble_eq_true rfl⟩ ⟨Nat.zero_le _, Nat.zero_le _⟩ (vS_chip C hPa) hPa hl.1 rfl rfl (Nat.le_of_ble_eq_true rfl) dX5_sector_10) hS (fun _ h => Or.inl h) (fun r10 σa10 μa10 H locs h hPa hk hS => ?_)
  have hPb := keepW rS hap.2.2.1 hPb hk
  have hPx := keepW (rX (x0 := x0) (Aa := Aa) (Ab := Ab)) (fun _ _ => hap.2.2.2.2.1) hPx hk
  refine lv_if_ne (tgt := 18) hx hb dX5_sector_13 (by decide) (fun hc => ?_) (fun hc => ?_)
  · have h := h.1 hc
    refine lv_iload_n hx hb dX5_sector_18 rfl (lv_at hl 3 rfl) ?_
    by_cases hc : (x2).toInt < 0 ∨ 4 < (x2).toInt
    · have h := h.1 hc
      refine lv_tableOut (tgt := 102) hx hb dX5_sector_19 hc (by decide) ?_
      refine lv_iconst (v := -1) hx hb dX5_sector_102 (by decide) ?_
      exact endI C hS ⟨_, _, _, _, _, rfl, h, hPa, hPb, hPx⟩ dX5_sector_103
    · have hr : (x2).toInt = 0 ∨ (x2).toInt = 1 ∨ (x2).toInt = 2 ∨ (x2).toInt = 3 ∨ (x2).toInt = 4 := by omega
      rcases hr with hr | hr | hr | hr | hr
      · have h := h.2.1 (Int32.toInt_inj.mp (by rw [hr]; rfl))
        refine lv_tableIn (off := 33) (tgt := 52) hx hb dX5_sector_19 (by omega) (by omega) (by rw [hr]; rfl) (by decide) ?_
        refine lv_aload_n hx hb dX5_sector_52 rfl (lv_at hl 0 rfl) ?_
        refine lv_iload_n hx hb dX5_sector_53 rfl (lv_at hl 2 rfl) ?_
        refine lv_iconst (v := 0) hx hb dX5_sector_54 (by decide) ?_
        refine kWi (rnVN C (ct_X1_peek l D cy Aa hap.1 h) yv_X1_peek wn_715 ⟨rfl, rfl⟩ ⟨Nat.le_of_ble_eq_true rfl, Nat.le_of_ble_eq_true rfl⟩ ⟨Nat.zero_le _, Nat.zero_le _⟩ (vS_chip C hPa) hPa hl.1 rfl rfl (Nat.le_of_ble_eq_true rfl) dX5_sector_55) hS (fun _ h => Or.inl h) (fun r55 σa55 μa55 H locs h hPa hk hS => ?_)
        have hPb := keepW rS hap.2.2.1 hPb hk
        have hPx := keepW (rX (x0 := x0) (Aa := Aa) (Ab := Ab)) (fun _ _ => hap.2.2.2.2.1) hPx hk
        exact endI C hS ⟨_, _, _, _, _, rfl, h, hPa, hPb, hPx⟩ dX5_sector_58
      · have h := h.2.2.1 (Int32.toInt_inj.mp (by rw [hr]; rfl))
        refine lv_tableIn (off := 40) (tgt := 59) hx hb dX5_sector_19 (by omega) (by omega) (by rw [hr]; rfl) (by decide) ?_
        refine lv_aload_n hx hb dX5_sector_59 rfl (lv_at hl 0 rfl) ?_
        refine lv_iload_n hx hb dX5_sector_60 rfl (lv_at hl 2 rfl) ?_
        refine kWi (rnVN C (ct_X1_numberOf l D cy Aa hap.1 h) yv_X1_numberOf wn_716 ⟨rfl, rfl⟩ ⟨Nat.le_of_ble_eq_true rfl, Nat.le_of_ble_eq_true rfl⟩ ⟨Nat.zero_le _, Nat.zero_le _⟩ (vS_chip C hPa) hPa hl.1 rfl rfl (Nat.le_of_ble_eq_true rfl) dX5_sector_61) hS (fun _ h => Or.inl h) (fun r61 σa61 μa61 H locs h hPa hk hS => ?_)
        have hPb := keepW rS hap.2.2.1 hPb hk
        have hPx := keepW (rX (x0 := x0) (Aa := Aa) (Ab := Ab)) (fun _ _ => hap.2.2.2.2.1) hPx hk
        exact endI C hS ⟨_, _, _, _, _, rfl, h, hPa, hPb, hPx⟩ dX5_sector_64
      · have h := h.2.2.2.1 (Int32.toInt_inj.mp (by rw [hr]; rfl))
        refine lv_tableIn (off := 46) (tgt := 65) hx hb dX5_sector_19 (by omega) (by omega) (by rw [hr]; rfl) (by decide) ?_
        refine lv_aload_n hx hb dX5_sector_65 rfl (lv_at hl 0 rfl) ?_
        refine lv_iload_n hx hb dX5_sector_66 rfl (lv_at hl 2 rfl) ?_
        refine kWi (rnVN C (ct_X1_erasesOf l D cy Aa hap.1 h) yv_X1_erasesOf wn_717 ⟨rfl, rfl⟩ ⟨Nat.le_of_ble_eq_true rfl, Nat.le_of_ble_eq_true rfl⟩ ⟨Nat.zero_le _, Nat.zero_le _⟩ (vS_chip C hPa) hPa hl.1 rfl rfl (Nat.le_of_ble_eq_true rfl) dX5_sector_67) hS (fun _ h => Or.inl h) (fun r67 σa67 μa67 H locs h hPa hk hS => ?_)
        have hPb := keepW rS hap.2.2.1 hPb hk
        have hPx := keepW (rX (x0 := x0) (Aa := Aa) (Ab := Ab)) (fun _ _ => hap.2.2.2.2.1) hPx hk
        exact endI C hS ⟨_, _, _, _, _, rfl, h, hPa, hPb, hPx⟩ dX5_sector_70
      · have h := h.2.2.2.2.1 (Int32.toInt_inj.mp (by rw [hr]; rfl))
        refine lv_tableIn (off := 52) (tgt := 71) hx hb dX5_sector_19 (by omega) (by omega) (by rw [hr]; rfl) (by decide) ?_
        refine lv_aload_n hx hb dX5_sector_71 rfl (lv_at hl 0 rfl) ?_
        refine lv_iload_n hx hb dX5_sector_72 rfl (lv_at hl 2 rfl) ?_
        refine kWi (rnVN C (ct_X1_isBlank l D cy Aa hap.1 h) yv_X1_isBlank wn_718 ⟨rfl, rfl⟩ ⟨Nat.le_of_ble_eq_true rfl, Nat.le_of_ble_eq_true rfl⟩ ⟨Nat.zero_le _, Nat.zero_le _⟩ (vS_chip C hPa) hPa hl.1 rfl rfl (Nat.le_of_ble_eq_true rfl) dX5_sector_73) hS (fun _ h => Or.inl h) (fun r73 σa73 μa73 H locs h hPa hk hS => ?_)
        have hPb := keepW rS hap.2.2.1 hPb hk
        have hPx := keepW (rX (x0 := x0) (Aa := Aa) (Ab := Ab)) (fun _ _ => hap.2.2.2.2.1) hPx hk
        refine lv_if_eq (tgt := 83) hx hb dX5_sector_76 (by decide) (fun hc => ?_) (fun hc => ?_)
        · have h := h.1 hc
          refine lv_iconst (v := 0) hx hb dX5_sector_83 (by decide) ?_
          exact wk_X5_sector_84 C hap h hPa hPb hPx hS (lv_sub hl [] rfl)
        · have h := h.2 hc
          refine lv_iconst (v := 1) hx hb dX5_sector_79 (by decide) ?_
          refine lv_goto (tgt := 84) hx hb dX5_sector_80 (by decide) ?_
          exact wk_X5_sector_84 C hap h hPa hPb hPx hS (lv_sub hl [] rfl)
      · have h := h.2.2.2.2.2 (Int32.toInt_inj.mp (by rw [hr]; rfl))
        refine lv_tableIn (off := 66) (tgt := 85) hx hb dX5_sector_19 (by omega) (by omega) (by rw [hr]; rfl) (by decide) ?_
        refine lv_aload_n hx hb dX5_sector_85 rfl (lv_at hl 1 rfl) ?_
        refine gX_store C hPx (C.2.2.2.2.2.2.1 _ wq_336) dX5_sector_86 ?_
        refine gnS_store_inUse C hPa (NW.use C.2.2.2.2.2.2.2.2 wn_317) dX5_sector_89 ?_
        refine lv_iload_n hx hb dX5_sector_92 rfl (lv_at hl 2 rfl) ?_
        refine lv_icmp_ne (tgt := 100) hx hb dX5_sector_93 (by decide) (fun hc => ?_) (fun hc => ?_)
        · have h := h.1 hc
          refine lv_iconst (v := 0) hx hb dX5_sector_100 (by decide) ?_
          exact wk_X5_sector_101 C hap h hPa hPb hPx hS (lv_sub hl [] rfl)
        · have h := h.2 hc
          refine lv_iconst (v := 1) hx hb dX5_sector_96 (by decide) ?_
          refine lv_goto (tgt := 101) hx hb dX5_sector_97 (by decide) ?_
          exact wk_X5_sector_101 C hap h hPa hPb hPx hS (lv_sub hl [] rfl)
  · have h := h.2 hc
    refine lv_iconst (v := -1) hx hb dX5_sector_16 (by decide) ?_
    exact endI C hS ⟨_, _, _, _, _, rfl, h, hPa, hPb, hPx⟩ dX5_sector_17
abbrev rmX5_entry : Room := { frames := 4, cells := 0, slots := 0, locals := 97 }
def wp_X5_entry (σa : Rg) (μa : Ar) (σb : Rg) (μb : Ar) (x1 : Int32) (x2 : Int32) (x3 : Int32) (Q : Int32 → Rg → Ar → Rg → Ar → Prop) : Prop := wp_X1_hasSector σa μa x1 (fun r8 σa8 μa8 => ((¬ r8 = 0 → wp_X3_scan σa8 μa8 x1 (fun σa35 μa35 => ((¬ x2 = (-1 : Int32) → wp_X3_tell σa35 μa35 x2 x3 (fun r53 σa53 μa53 => Q r53 σa53 μa53 σb μb)) ∧ (x2 = (-1 : Int32) → Q (σa35 12) σa35 μa35 σb μb)))) ∧ (r8 = 0 → Q (-1 : Int32) σa8 μa8 σb μb)))
set_option maxHeartbeats 4000000 in
set_option maxRecDepth 100000 in
theorem ct_X5_entry (l : Launch) (D : va_G) (cy : ClassId) (x0 : Nat) (Aa Ab : Nat → Nat) (hap : apX x0 Aa Ab) {σa : Rg} {μa : Ar} {σb : Rg} {μb : Ar} {x1 : Int32} {x2 : Int32} {x3 : Int32} {Q : Int32 → Rg → Ar → Rg → Ar → Prop} (h : wp_X5_entry σa μa σb μb x1 x2 x3 Q) : Ct l yX5_entry cX5_entry 5 (some FieldType.int) rmX5_entry D [(cy, .int)] (fun H => va_P D vwCl (wS Aa cy σa μa) H ∧ va_P D vwCl (wS Ab cy σb μb) H ∧ va_P D vwCl (wX x0 Aa Ab) H) [.ref x0, .int x1, .int x2, .int x3] (AX Aa Ab) (PXi x0 Aa Ab cy D Q) := by
  refine Ct.of (by decide) (Nat.le_of_ble_eq_true rfl) ?_
  intro p e s m below meth c ls C hP hl
  obtain ⟨hPa, hPb, hPx⟩ := hP
  have hl : lv_has ls 5 [(0, .ref x0), (1, .int x1), (2, .int x2), (3, .int x3)] := hl
  have hS : va_S (AX Aa Ab) s.heap s.heap [] := va_S.rf
  have hx := C.1
  have hb := C.2.1
  refine lv_aload_n hx hb dX5_entry_0 rfl (lv_at hl 0 rfl) ?_
  refine gX_store C hPx (C.2.2.2.2.2.2.1 _ wq_336) dX5_entry_1 ?_
  refine gnS_store_chip C hPa (NW.use C.2.2.2.2.2.2.2.2 wn_310) dX5_entry_4 ?_
  refine lv_iload_n hx hb dX5_entry_7 rfl (lv_at hl 1 rfl) ?_
  refine kWi (rnVN C (ct_X1_hasSector l D cy Aa hap.1 h) yv_X1_hasSector wn_714 ⟨rfl, rfl⟩ ⟨Nat.le_of_ble_eq_true rfl, Nat.le_of_ble_eq_true rfl⟩ ⟨Nat.zero_le _, Nat.zero_le _⟩ (vS_chip C hPa) hPa hl.1 rfl rfl (Nat.le_of_ble_eq_true rfl) dX5_entry_8) hS (fun _ h => Or.inl h) (fun r8 σa8 μa8 H locs h hPa hk hS => ?_)
  have hPb := keepW rS hap.2.2.1 hPb hk
  have hPx := keepW (rX (x0 := x0) (Aa := Aa) (Ab := Ab)) (fun _ _ => hap.2.2.2.2.1) hPx hk
  refine lv_if_ne (tgt := 16) hx hb dX5_entry_11 (by decide) (fun hc => ?_) (fun hc => ?_)
  · have h := h.1 hc
    refine lv_aload_n hx hb dX5_entry_16 rfl (lv_at hl 0 rfl) ?_
    refine gX_store C hPx (C.2.2.2.2.2.2.1 _ wq_336) dX5_entry_17 ?_
    refine gnS_store_reading C hPa (NW.use C.2.2.2.2.2.2.2.2 wn_312) dX5_entry_20 ?_
    refine lv_astore (lv' := [(4, .ref (Aa 4)), (0, .ref x0), (1, .int x1), (2, .int x2), (3, .int x3)]) hx hb dX5_entry_23 hl (by decide) rfl (fun ls hl => ?_)
    refine lv_aload hx hb dX5_entry_25 (lv_at hl 0 rfl) ?_
    refine lv_aload_n hx hb dX5_entry_27 rfl (lv_at hl 1 rfl) ?_
    refine gX_store C hPx (C.2.2.2.2.2.2.1 _ wq_336) dX5_entry_28 ?_
    refine gnS_store_chip C hPa (NW.use C.2.2.2.2.2.2.2.2 wn_310) dX5_entry_31 ?_
    refine lv_iload_n hx hb dX5_entry_34 rfl (lv_at hl 2 rfl) ?_
    refine kWv (rnVN C (ct_X3_scan l D cy Aa hap.1 h) yv_X3_scan wn_723 ⟨rfl, rfl⟩ ⟨Nat.le_of_ble_eq_true rfl, Nat.le_of_ble_eq_true rfl⟩ ⟨Nat.zero_le _, Nat.zero_le _⟩ (vS_reading C hPa) hPa hl.1 rfl rfl (Nat.le_of_ble_eq_true rfl) dX5_entry_35) hS (fun _ h => Or.inl h) (fun σa35 μa35 H locs h hPa hk hS => ?_)
    have hPb := keepW rS hap.2.2.1 hPb hk
    have hPx := keepW (rX (x0 := x0) (Aa := Aa) (Ab := Ab)) (fun _ _ => hap.2.2.2.2.1) hPx hk
    refine lv_iload_n hx hb dX5_entry_38 rfl (lv_at hl 3 rfl) ?_
    refine lv_iconst (v := -1) hx hb dX5_entry_39 (by decide) ?_
    refine lv_icmp_ne (tgt := 49) hx hb dX5_entry_40 (by decide) (fun hc => ?_) (fun hc => ?_)
    · have h := h.1 hc
      refine lv_aload hx hb dX5_entry_49 (lv_at hl 0 rfl) ?_
      refine lv_iload_n hx hb dX5_entry_51 rfl (lv_at hl 3 rfl) ?_
      refine lv_iload_n hx hb dX5_entry_52 rfl (lv_at hl 4 rfl) ?_
      refine kWi (rnVN C (ct_X3_tell l D cy Aa hap.1 h) yv_X3_tell wn_724 ⟨rfl, rfl⟩ ⟨Nat.le_of_ble_eq_true rfl, Nat.le_of_ble_eq_true rfl⟩ ⟨Nat.zero_le _, Nat.zero_le _⟩ (vS_reading C hPa) hPa hl.1 rfl rfl (Nat.le_of_ble_eq_true rfl) dX5_entry_53) hS (fun _ h => Or.inl h) (fun r53 σa53 μa53 H locs h hPa hk hS => ?_)
      have hPb := keepW rS hap.2.2.1 hPb hk
      have hPx := keepW (rX (x0 := x0) (Aa := Aa) (Ab := Ab)) (fun _ _ => hap.2.2.2.2.1) hPx hk
      exact endI C hS ⟨_, _, _, _, _, rfl, h, hPa, hPb, hPx⟩ dX5_entry_56
    · have h := h.2 hc
      refine lv_aload hx hb dX5_entry_43 (lv_at hl 0 rfl) ?_
      refine gnS_reading_entries C hPa (NW.use C.2.2.2.2.2.2.2.2 wn_225) dX5_entry_45 ?_
      exact endI C hS ⟨_, _, _, _, _, rfl, h, hPa, hPb, hPx⟩ dX5_entry_48
  · have h := h.2 hc
    refine lv_iconst (v := -1) hx hb dX5_entry_14 (by decide) ?_
    exact endI C hS ⟨_, _, _, _, _, rfl, h, hPa, hPb, hPx⟩ dX5_entry_15
abbrev rmX5_space : Room := { frames := 4, cells := 0, slots := 0, locals := 97 }
def wp_X5_space (σa : Rg) (μa : Ar) (σb : Rg) (μb : Ar) (x1 : Int32) (x2 : Int32) (Q : Int32 → Rg → Ar → Rg → Ar → Prop) : Prop := wp_X1_hasSector σa μa x1 (fun r8 σa8 μa8 => ((¬ r8 = 0 → wp_X3_scan σa8 μa8 x1 (fun σa33 μa33 => (((x2).toInt < 0 ∨ 3 < (x2).toInt → Q (-1 : Int32) σa33 μa33 σb μb) ∧ (x2 = 0 → Q (σa33 13) σa33 μa33 σb μb) ∧ (x2 = 1 → Q (σa33 14) σa33 μa33 σb μb) ∧ (x2 = 2 → wp_X3_valuedBytes σa33 μa33  (fun r79 σa79 μa79 => Q r79 σa79 μa79 σb μb)) ∧ (x2 = 3 → wp_X3_allBytes σa33 μa33  (fun r84 σa84 μa84 => wp_X3_valuedBytes σa84 μa84  (fun r88 σa88 μa88 => Q (r84 - r88) σa88 μa88 σb μb)))))) ∧ (r8 = 0 → Q (-1 : Int32) σa8 μa8 σb μb)))
set_option maxHeartbeats 4000000 in
set_option maxRecDepth 100000 in
theorem ct_X5_space (l : Launch) (D : va_G) (cy : ClassId) (x0 : Nat) (Aa Ab : Nat → Nat) (hap : apX x0 Aa Ab) {σa : Rg} {μa : Ar} {σb : Rg} {μb : Ar} {x1 : Int32} {x2 : Int32} {Q : Int32 → Rg → Ar → Rg → Ar → Prop} (h : wp_X5_space σa μa σb μb x1 x2 Q) : Ct l yX5_space cX5_space 4 (some FieldType.int) rmX5_space D [(cy, .int)] (fun H => va_P D vwCl (wS Aa cy σa μa) H ∧ va_P D vwCl (wS Ab cy σb μb) H ∧ va_P D vwCl (wX x0 Aa Ab) H) [.ref x0, .int x1, .int x2] (AX Aa Ab) (PXi x0 Aa Ab cy D Q) := by
  refine Ct.of (by decide) (Nat.le_of_ble_eq_true rfl) ?_
  intro p e s m below meth c ls C hP hl
  obtain ⟨hPa, hPb, hPx⟩ := hP
  have hl : lv_has ls 4 [(0, .ref x0), (1, .int x1), (2, .int x2)] := hl
  have hS : va_S (AX Aa Ab) s.heap s.heap [] := va_S.rf
  have hx := C.1
  have hb := C.2.1
  refine lv_aload_n hx hb dX5_space_0 rfl (lv_at hl 0 rfl) ?_
  refine gX_store C hPx (C.2.2.2.2.2.2.1 _ wq_336) dX5_space_1 ?_
  refine gnS_store_chip C hPa (NW.use C.2.2.2.2.2.2.2.2 wn_310) dX5_space_4 ?_
  refine lv_iload_n hx hb dX5_space_7 rfl (lv_at hl 1 rfl) ?_
  refine kWi (rnVN C (ct_X1_hasSector l D cy Aa hap.1 h) yv_X1_hasSector wn_714 ⟨rfl, rfl⟩ ⟨Nat.le_of_ble_eq_true rfl, Nat.le_of_ble_eq_true rfl⟩ ⟨Nat.zero_le _, Nat.zero_le _⟩ (vS_chip C hPa) hPa hl.1 rfl rfl (Nat.le_of_ble_eq_true rfl) dX5_space_8) hS (fun _ h => Or.inl h) (fun r8 σa8 μa8 H locs h hPa hk hS => ?_)
  have hPb := keepW rS hap.2.2.1 hPb hk
  have hPx := keepW (rX (x0 := x0) (Aa := Aa) (Ab := Ab)) (fun _ _ => hap.2.2.2.2.1) hPx hk
  refine lv_if_ne (tgt := 16) hx hb dX5_space_11 (by decide) (fun hc => ?_) (fun hc => ?_)
  · have h := h.1 hc
    refine lv_aload_n hx hb dX5_space_16 rfl (lv_at hl 0 rfl) ?_
    refine gX_store C hPx (C.2.2.2.2.2.2.1 _ wq_336) dX5_space_17 ?_
    refine gnS_store_reading C hPa (NW.use C.2.2.2.2.2.2.2.2 wn_312) dX5_space_20 ?_
    refine lv_astore_n (lv' := [(3, .ref (Aa 4)), (0, .ref x0), (1, .int x1), (2, .int x2)]) hx hb dX5_space_23 rfl hl (by decide) rfl (fun ls hl => ?_)
    refine lv_aload_n hx hb dX5_space_24 rfl (lv_at hl 0 rfl) ?_
    refine lv_aload_n hx hb dX5_space_25 rfl (lv_at hl 1 rfl) ?_
    refine gX_store C hPx (C.2.2.2.2.2.2.1 _ wq_336) dX5_space_26 ?_
    refine gnS_store_chip C hPa (NW.use C.2.2.2.2.2.2.2.2 wn_310) dX5_space_29 ?_
    refine lv_iload_n hx hb dX5_space_32 rfl (lv_at hl 2 rfl) ?_
    refine kWv (rnVN C (ct_X3_scan l D cy Aa hap.1 h) yv_X3_scan wn_723 ⟨rfl, rfl⟩ ⟨Nat.le_of_ble_eq_true rfl, Nat.le_of_ble_eq_true rfl⟩ ⟨Nat.zero_le _, Nat.zero_le _⟩ (vS_reading C hPa) hPa hl.1 rfl rfl (Nat.le_of_ble_eq_true rfl) dX5_space_33) hS (fun _ h => Or.inl h) (fun σa33 μa33 H locs h hPa hk hS => ?_)
    have hPb := keepW rS hap.2.2.1 hPb hk
    have hPx := keepW (rX (x0 := x0) (Aa := Aa) (Ab := Ab)) (fun _ _ => hap.2.2.2.2.1) hPx hk
    refine lv_iload_n hx hb dX5_space_36 rfl (lv_at hl 3 rfl) ?_
    by_cases hc : (x2).toInt < 0 ∨ 3 < (x2).toInt
    · have h := h.1 hc
      refine lv_tableOut (tgt := 93) hx hb dX5_space_37 hc (by decide) ?_
      refine lv_iconst (v := -1) hx hb dX5_space_93 (by decide) ?_
      exact endI C hS ⟨_, _, _, _, _, rfl, h, hPa, hPb, hPx⟩ dX5_space_94
    · have hr : (x2).toInt = 0 ∨ (x2).toInt = 1 ∨ (x2).toInt = 2 ∨ (x2).toInt = 3 := by omega
      rcases hr with hr | hr | hr | hr
      · have h := h.2.1 (Int32.toInt_inj.mp (by rw [hr]; rfl))
        refine lv_tableIn (off := 31) (tgt := 68) hx hb dX5_space_37 (by omega) (by omega) (by rw [hr]; rfl) (by decide) ?_
        refine lv_aload_n hx hb dX5_space_68 rfl (lv_at hl 0 rfl) ?_
        refine gnS_reading_free C hPa (NW.use C.2.2.2.2.2.2.2.2 wn_228) dX5_space_69 ?_
        exact endI C hS ⟨_, _, _, _, _, rfl, h, hPa, hPb, hPx⟩ dX5_space_72
      · have h := h.2.2.1 (Int32.toInt_inj.mp (by rw [hr]; rfl))
        refine lv_tableIn (off := 36) (tgt := 73) hx hb dX5_space_37 (by omega) (by omega) (by rw [hr]; rfl) (by decide) ?_
        refine lv_aload_n hx hb dX5_space_73 rfl (lv_at hl 0 rfl) ?_
        refine gnS_reading_lost C hPa (NW.use C.2.2.2.2.2.2.2.2 wn_230) dX5_space_74 ?_
        exact endI C hS ⟨_, _, _, _, _, rfl, h, hPa, hPb, hPx⟩ dX5_space_77
      · have h := h.2.2.2.1 (Int32.toInt_inj.mp (by rw [hr]; rfl))
        refine lv_tableIn (off := 41) (tgt := 78) hx hb dX5_space_37 (by omega) (by omega) (by rw [hr]; rfl) (by decide) ?_
        refine lv_aload_n hx hb dX5_space_78 rfl (lv_at hl 0 rfl) ?_
        refine kWi (rnVN C (ct_X3_valuedBytes l D cy Aa hap.1 h) yv_X3_valuedBytes wn_732 ⟨rfl, rfl⟩ ⟨Nat.le_of_ble_eq_true rfl, Nat.le_of_ble_eq_true rfl⟩ ⟨Nat.zero_le _, Nat.zero_le _⟩ (vS_reading C hPa) hPa hl.1 rfl rfl (Nat.le_of_ble_eq_true rfl) dX5_space_79) hS (fun _ h => Or.inl h) (fun r79 σa79 μa79 H locs h hPa hk hS => ?_)
        have hPb := keepW rS hap.2.2.1 hPb hk
        have hPx := keepW (rX (x0 := x0) (Aa := Aa) (Ab := Ab)) (fun _ _ => hap.2.2.2.2.1) hPx hk
        exact endI C hS ⟨_, _, _, _, _, rfl, h, hPa, hPb, hPx⟩ dX5_space_82
      · have h := h.2.2.2.2 (Int32.toInt_inj.mp (by rw [hr]; rfl))
        refine lv_tableIn (off := 46) (tgt := 83) hx hb dX5_space_37 (by omega) (by omega) (by rw [hr]; rfl) (by decide) ?_
        refine lv_aload_n hx hb dX5_space_83 rfl (lv_at hl 0 rfl) ?_
        refine kWi (rnVN C (ct_X3_allBytes l D cy Aa hap.1 h) yv_X3_allBytes wn_733 ⟨rfl, rfl⟩ ⟨Nat.le_of_ble_eq_true rfl, Nat.le_of_ble_eq_true rfl⟩ ⟨Nat.zero_le _, Nat.zero_le _⟩ (vS_reading C hPa) hPa hl.1 rfl rfl (Nat.le_of_ble_eq_true rfl) dX5_space_84) hS (fun _ h => Or.inl h) (fun r84 σa84 μa84 H locs h hPa hk hS => ?_)
        have hPb := keepW rS hap.2.2.1 hPb hk
        have hPx := keepW (rX (x0 := x0) (Aa := Aa) (Ab := Ab)) (fun _ _ => hap.2.2.2.2.1) hPx hk
        refine lv_aload_n hx hb dX5_space_87 rfl (lv_at hl 0 rfl) ?_
        refine kWi (rnVN C (ct_X3_valuedBytes l D cy Aa hap.1 h) yv_X3_valuedBytes wn_732 ⟨rfl, rfl⟩ ⟨Nat.le_of_ble_eq_true rfl, Nat.le_of_ble_eq_true rfl⟩ ⟨Nat.zero_le _, Nat.zero_le _⟩ (vS_reading C hPa) hPa hl.1 rfl rfl (Nat.le_of_ble_eq_true rfl) dX5_space_88) hS (fun _ h => Or.inl h) (fun r88 σa88 μa88 H locs h hPa hk hS => ?_)
        have hPb := keepW rS hap.2.2.1 hPb hk
        have hPx := keepW (rX (x0 := x0) (Aa := Aa) (Ab := Ab)) (fun _ _ => hap.2.2.2.2.1) hPx hk
        refine lv_isub hx hb dX5_space_91 ?_
        exact endI C hS ⟨_, _, _, _, _, rfl, h, hPa, hPb, hPx⟩ dX5_space_92
  · have h := h.2 hc
    refine lv_iconst (v := -1) hx hb dX5_space_14 (by decide) ?_
    exact endI C hS ⟨_, _, _, _, _, rfl, h, hPa, hPb, hPx⟩ dX5_space_15
abbrev rmX5_until : Room := { frames := 5, cells := 0, slots := 0, locals := 117 }
def wb_X5_until_19 (Q : Int32 → Rg → Ar → Rg → Ar → Prop) (σa : Rg) (μa : Ar) (σb : Rg) (μb : Ar) : Prop := Q (-1 : Int32) σa μa σb μb
set_option maxHeartbeats 4000000 in
set_option maxRecDepth 100000 in
theorem wk_X5_until_19 {p : Program} {l : Launch} {e : Env} {s : State} {m : MethodId} {args : Array Value} {below : List Frame} {meth : Method} {c : Code} {D : va_G} {cy : ClassId} {x0 : Nat} {Aa Ab : Nat → Nat} (C : Cx p s m args meth c RX5 cX5_until 2 (some FieldType.int) D [(cy, .int)]) (hap : apX x0 Aa Ab) {Q : Int32 → Rg → Ar → Rg → Ar → Prop} {σa : Rg} {μa : Ar} {σb : Rg} {μb : Ar}  {H : Heap} {locs : List Loc} {ls : Array Slot} (h : wb_X5_until_19 Q σa μa σb μb) (hPa : va_P D vwCl (wS Aa cy σa μa) H) (hPb : va_P D vwCl (wS Ab cy σb μb) H) (hPx : va_P D vwCl (wX x0 Aa Ab) H) (hS : va_S (AX Aa Ab) s.heap H locs) (hl : lv_has ls 2 []) : W p l e rmX5_until s m args below meth c H locs 0 0 (MQ below (Qcg (PXi x0 Aa Ab cy D Q) (AX Aa Ab)) args s 0 0 (AX Aa Ab)) (F0 m 19 ls []) := by
  have hx := C.1
  have hb := C.2.1
  refine lv_iconst (v := -1) hx hb dX5_until_19 (by decide) ?_
  exact endI C hS ⟨_, _, _, _, _, rfl, h, hPa, hPb, hPx⟩ dX5_until_20
def wp_X5_until (σa : Rg) (μa : Ar) (σb : Rg) (μb : Ar) (x1 : Int32) (Q : Int32 → Rg → Ar → Rg → Ar → Prop) : Prop := wp_X4_isOn σa μa  (fun r4 σa4 μa4 => ((r4 = 0 → wb_X5_until_19 Q σa4 μa4 σb μb) ∧ (¬ r4 = 0 → wp_X5_within x1 (1 : Int32) (4 : Int32) (fun r13 => ((¬ r13 = 0 → wp_X4_look σa4 μa4  (fun σa25 μa25 => wp_X3_freeBytes σa25 μa25  (fun r28 σa28 μa28 => (¬ ((3 : Int32) + x1) = 0) ∧ (Q (r28 / ((3 : Int32) + x1)) σa28 μa28 σb μb)))) ∧ (r13 = 0 → wb_X5_until_19 Q σa4 μa4 σb μb))))))
set_option maxHeartbeats 4000000 in
set_option maxRecDepth 100000 in
theorem ct_X5_until (l : Launch) (D : va_G) (cy : ClassId) (x0 : Nat) (Aa Ab : Nat → Nat) (hap : apX x0 Aa Ab) {σa : Rg} {μa : Ar} {σb : Rg} {μb : Ar} {x1 : Int32} {Q : Int32 → Rg → Ar → Rg → Ar → Prop} (h : wp_X5_until σa μa σb μb x1 Q) : Ct l yX5_until cX5_until 2 (some FieldType.int) rmX5_until D [(cy, .int)] (fun H => va_P D vwCl (wS Aa cy σa μa) H ∧ va_P D vwCl (wS Ab cy σb μb) H ∧ va_P D vwCl (wX x0 Aa Ab) H) [.ref x0, .int x1] (AX Aa Ab) (PXi x0 Aa Ab cy D Q) := by
  refine Ct.of (by decide) (Nat.le_of_ble_eq_true rfl) ?_
  intro p e s m below meth c ls C hP hl
  obtain ⟨hPa, hPb, hPx⟩ := hP
  have hl : lv_has ls 2 [(0, .ref x0), (1, .int x1)] := hl
  have hS : va_S (AX Aa Ab) s.heap s.heap [] := va_S.rf
  have hx := C.1
  have hb := C.2.1
  refine lv_aload_n hx hb dX5_until_0 rfl (lv_at hl 0 rfl) ?_
  refine gX_store C hPx (C.2.2.2.2.2.2.1 _ wq_336) dX5_until_1 ?_
  refine kWi (rnVN C (ct_X4_isOn l D cy Aa hap.1 h) yv_X4_isOn wn_366 ⟨rfl, rfl⟩ ⟨Nat.le_of_ble_eq_true rfl, Nat.le_of_ble_eq_true rfl⟩ ⟨Nat.zero_le _, Nat.zero_le _⟩ (vS_store C hPa) hPa hl.1 rfl rfl (Nat.le_of_ble_eq_true rfl) dX5_until_4) hS (fun _ h => Or.inl h) (fun r4 σa4 μa4 H locs h hPa hk hS => ?_)
  have hPb := keepW rS hap.2.2.1 hPb hk
  have hPx := keepW (rX (x0 := x0) (Aa := Aa) (Ab := Ab)) (fun _ _ => hap.2.2.2.2.1) hPx hk
  refine lv_if_eq (tgt := 19) hx hb dX5_until_7 (by decide) (fun hc => ?_) (fun hc => ?_)
  · have h := h.1 hc
    exact wk_X5_until_19 C hap h hPa hPb hPx hS (lv_sub hl [] rfl)
  · have h := h.2 hc
    refine lv_iload_n hx hb dX5_until_10 rfl (lv_at hl 1 rfl) ?_
    refine lv_iconst (v := 1) hx hb dX5_until_11 (by decide) ?_
    refine lv_iconst (v := 4) hx hb dX5_until_12 (by decide) ?_
    refine kNi (rnS (C.none) (ct_X5_within l D h) ys_X5_within wq_347 ⟨rfl, rfl⟩ ⟨Nat.le_of_ble_eq_true rfl, Nat.le_of_ble_eq_true rfl⟩ ⟨Nat.zero_le _, Nat.zero_le _⟩ trivial hl.1 rfl rfl (Nat.le_of_ble_eq_true rfl) dX5_until_13) hS (fun _ h => h.elim) (fun r13 H locs h hk hS => ?_)
    have hPa := keepN hPa hk
    have hPb := keepN hPb hk
    have hPx := keepN hPx hk
    refine lv_if_ne (tgt := 21) hx hb dX5_until_16 (by decide) (fun hc => ?_) (fun hc => ?_)
    · have h := h.1 hc
      refine lv_aload_n hx hb dX5_until_21 rfl (lv_at hl 0 rfl) ?_
      refine gX_store C hPx (C.2.2.2.2.2.2.1 _ wq_336) dX5_until_22 ?_
      refine kWr (rnVN C (ct_X4_look l D cy Aa hap.1 h) yv_X4_look wn_695 ⟨rfl, rfl⟩ ⟨Nat.le_of_ble_eq_true rfl, Nat.le_of_ble_eq_true rfl⟩ ⟨Nat.zero_le _, Nat.zero_le _⟩ (vS_store C hPa) hPa hl.1 rfl rfl (Nat.le_of_ble_eq_true rfl) dX5_until_25) hS (fun _ h => Or.inl h) (fun σa25 μa25 H locs h hPa hk hS => ?_)
      have hPb := keepW rS hap.2.2.1 hPb hk
      have hPx := keepW (rX (x0 := x0) (Aa := Aa) (Ab := Ab)) (fun _ _ => hap.2.2.2.2.1) hPx hk
      refine kWi (rnVN C (ct_X3_freeBytes l D cy Aa hap.1 h) yv_X3_freeBytes wn_741 ⟨rfl, rfl⟩ ⟨Nat.le_of_ble_eq_true rfl, Nat.le_of_ble_eq_true rfl⟩ ⟨Nat.zero_le _, Nat.zero_le _⟩ (vS_reading C hPa) hPa hl.1 rfl rfl (Nat.le_of_ble_eq_true rfl) dX5_until_28) hS (fun _ h => Or.inl h) (fun r28 σa28 μa28 H locs h hPa hk hS => ?_)
      have hPb := keepW rS hap.2.2.1 hPb hk
      have hPx := keepW (rX (x0 := x0) (Aa := Aa) (Ab := Ab)) (fun _ _ => hap.2.2.2.2.1) hPx hk
      refine lv_iconst (v := 3) hx hb dX5_until_31 (by decide) ?_
      refine lv_iload_n hx hb dX5_until_32 rfl (lv_at hl 1 rfl) ?_
      refine lv_iadd hx hb dX5_until_33 ?_
      obtain ⟨hc, h⟩ := h
      refine lv_idiv hx hb dX5_until_34 hc ?_
      exact endI C hS ⟨_, _, _, _, _, rfl, h, hPa, hPb, hPx⟩ dX5_until_35
    · have h := h.2 hc
      exact wk_X5_until_19 C hap h hPa hPb hPx hS (lv_sub hl [] rfl)
abbrev rmX5_after : Room := { frames := 5, cells := 0, slots := 0, locals := 117 }
def wb_X5_after_24 (Q : Int32 → Rg → Ar → Rg → Ar → Prop) (σa : Rg) (μa : Ar) (σb : Rg) (μb : Ar) (t0 : Int32) : Prop := Q t0 σa μa σb μb
set_option maxHeartbeats 4000000 in
set_option maxRecDepth 100000 in
theorem wk_X5_after_24 {p : Program} {l : Launch} {e : Env} {s : State} {m : MethodId} {args : Array Value} {below : List Frame} {meth : Method} {c : Code} {D : va_G} {cy : ClassId} {x0 : Nat} {Aa Ab : Nat → Nat} (C : Cx p s m args meth c RX5 cX5_after 1 (some FieldType.int) D [(cy, .int)]) (hap : apX x0 Aa Ab) {Q : Int32 → Rg → Ar → Rg → Ar → Prop} {σa : Rg} {μa : Ar} {σb : Rg} {μb : Ar} {t0 : Int32} {H : Heap} {locs : List Loc} {ls : Array Slot} (h : wb_X5_after_24 Q σa μa σb μb t0) (hPa : va_P D vwCl (wS Aa cy σa μa) H) (hPb : va_P D vwCl (wS Ab cy σb μb) H) (hPx : va_P D vwCl (wX x0 Aa Ab) H) (hS : va_S (AX Aa Ab) s.heap H locs) (hl : lv_has ls 1 []) : W p l e rmX5_after s m args below meth c H locs 0 0 (MQ below (Qcg (PXi x0 Aa Ab cy D Q) (AX Aa Ab)) args s 0 0 (AX Aa Ab)) (F0 m 24 ls [.int t0]) := by
  have hx := C.1
  have hb := C.2.1
  exact endI C hS ⟨_, _, _, _, _, rfl, h, hPa, hPb, hPx⟩ dX5_after_24
def wp_X5_after (σa : Rg) (μa : Ar) (σb : Rg) (μb : Ar) (Q : Int32 → Rg → Ar → Rg → Ar → Prop) : Prop := wp_X4_isOn σa μa  (fun r4 σa4 μa4 => ((r4 = 0 → wb_X5_after_24 Q σa4 μa4 σb μb (-1 : Int32)) ∧ (¬ r4 = 0 → wp_X4_look σa4 μa4  (fun σa14 μa14 => wp_X3_freeBehindHandover σa14 μa14  (fun r17 σa17 μa17 => wb_X5_after_24 Q σa17 μa17 σb μb r17)))))
set_option maxHeartbeats 4000000 in
set_option maxRecDepth 100000 in
theorem ct_X5_after (l : Launch) (D : va_G) (cy : ClassId) (x0 : Nat) (Aa Ab : Nat → Nat) (hap : apX x0 Aa Ab) {σa : Rg} {μa : Ar} {σb : Rg} {μb : Ar}  {Q : Int32 → Rg → Ar → Rg → Ar → Prop} (h : wp_X5_after σa μa σb μb  Q) : Ct l yX5_after cX5_after 1 (some FieldType.int) rmX5_after D [(cy, .int)] (fun H => va_P D vwCl (wS Aa cy σa μa) H ∧ va_P D vwCl (wS Ab cy σb μb) H ∧ va_P D vwCl (wX x0 Aa Ab) H) [.ref x0] (AX Aa Ab) (PXi x0 Aa Ab cy D Q) := by
  refine Ct.of (by decide) (Nat.le_of_ble_eq_true rfl) ?_
  intro p e s m below meth c ls C hP hl
  obtain ⟨hPa, hPb, hPx⟩ := hP
  have hl : lv_has ls 1 [(0, .ref x0)] := hl
  have hS : va_S (AX Aa Ab) s.heap s.heap [] := va_S.rf
  have hx := C.1
  have hb := C.2.1
  refine lv_aload_n hx hb dX5_after_0 rfl (lv_at hl 0 rfl) ?_
  refine gX_store C hPx (C.2.2.2.2.2.2.1 _ wq_336) dX5_after_1 ?_
  refine kWi (rnVN C (ct_X4_isOn l D cy Aa hap.1 h) yv_X4_isOn wn_366 ⟨rfl, rfl⟩ ⟨Nat.le_of_ble_eq_true rfl, Nat.le_of_ble_eq_true rfl⟩ ⟨Nat.zero_le _, Nat.zero_le _⟩ (vS_store C hPa) hPa hl.1 rfl rfl (Nat.le_of_ble_eq_true rfl) dX5_after_4) hS (fun _ h => Or.inl h) (fun r4 σa4 μa4 H locs h hPa hk hS => ?_)
  have hPb := keepW rS hap.2.2.1 hPb hk
  have hPx := keepW (rX (x0 := x0) (Aa := Aa) (Ab := Ab)) (fun _ _ => hap.2.2.2.2.1) hPx hk
  refine lv_if_eq (tgt := 23) hx hb dX5_after_7 (by decide) (fun hc => ?_) (fun hc => ?_)
  · have h := h.1 hc
    refine lv_iconst (v := -1) hx hb dX5_after_23 (by decide) ?_
    exact wk_X5_after_24 C hap h hPa hPb hPx hS (lv_sub hl [] rfl)
  · have h := h.2 hc
    refine lv_aload_n hx hb dX5_after_10 rfl (lv_at hl 0 rfl) ?_
    refine gX_store C hPx (C.2.2.2.2.2.2.1 _ wq_336) dX5_after_11 ?_
    refine kWr (rnVN C (ct_X4_look l D cy Aa hap.1 h) yv_X4_look wn_695 ⟨rfl, rfl⟩ ⟨Nat.le_of_ble_eq_true rfl, Nat.le_of_ble_eq_true rfl⟩ ⟨Nat.zero_le _, Nat.zero_le _⟩ (vS_store C hPa) hPa hl.1 rfl rfl (Nat.le_of_ble_eq_true rfl) dX5_after_14) hS (fun _ h => Or.inl h) (fun σa14 μa14 H locs h hPa hk hS => ?_)
    have hPb := keepW rS hap.2.2.1 hPb hk
    have hPx := keepW (rX (x0 := x0) (Aa := Aa) (Ab := Ab)) (fun _ _ => hap.2.2.2.2.1) hPx hk
    refine kWi (rnVN C (ct_X3_freeBehindHandover l D cy Aa hap.1 h) yv_X3_freeBehindHandover wn_746 ⟨rfl, rfl⟩ ⟨Nat.le_of_ble_eq_true rfl, Nat.le_of_ble_eq_true rfl⟩ ⟨Nat.zero_le _, Nat.zero_le _⟩ (vS_reading C hPa) hPa hl.1 rfl rfl (Nat.le_of_ble_eq_true rfl) dX5_after_17) hS (fun _ h => Or.inl h) (fun r17 σa17 μa17 H locs h hPa hk hS => ?_)
    have hPb := keepW rS hap.2.2.1 hPb hk
    have hPx := keepW (rX (x0 := x0) (Aa := Aa) (Ab := Ab)) (fun _ _ => hap.2.2.2.2.1) hPx hk
    refine lv_goto (tgt := 24) hx hb dX5_after_20 (by decide) ?_
    exact wk_X5_after_24 C hap h hPa hPb hPx hS (lv_sub hl [] rfl)
abbrev rmX5_costs : Room := { frames := 6, cells := 0, slots := 0, locals := 129 }
def wb_X5_costs_32 (Q : Int32 → Rg → Ar → Rg → Ar → Prop) (σa : Rg) (μa : Ar) (σb : Rg) (μb : Ar) : Prop := Q (-1 : Int32) σa μa σb μb
set_option maxHeartbeats 4000000 in
set_option maxRecDepth 100000 in
theorem wk_X5_costs_32 {p : Program} {l : Launch} {e : Env} {s : State} {m : MethodId} {args : Array Value} {below : List Frame} {meth : Method} {c : Code} {D : va_G} {cy : ClassId} {x0 : Nat} {Aa Ab : Nat → Nat} (C : Cx p s m args meth c RX5 cX5_costs 2 (some FieldType.int) D [(cy, .int)]) (hap : apX x0 Aa Ab) {Q : Int32 → Rg → Ar → Rg → Ar → Prop} {σa : Rg} {μa : Ar} {σb : Rg} {μb : Ar}  {H : Heap} {locs : List Loc} {ls : Array Slot} (h : wb_X5_costs_32 Q σa μa σb μb) (hPa : va_P D vwCl (wS Aa cy σa μa) H) (hPb : va_P D vwCl (wS Ab cy σb μb) H) (hPx : va_P D vwCl (wX x0 Aa Ab) H) (hS : va_S (AX Aa Ab) s.heap H locs) (hl : lv_has ls 2 []) : W p l e rmX5_costs s m args below meth c H locs 0 0 (MQ below (Qcg (PXi x0 Aa Ab cy D Q) (AX Aa Ab)) args s 0 0 (AX Aa Ab)) (F0 m 32 ls []) := by
  have hx := C.1
  have hb := C.2.1
  refine lv_iconst (v := -1) hx hb dX5_costs_32 (by decide) ?_
  exact endI C hS ⟨_, _, _, _, _, rfl, h, hPa, hPb, hPx⟩ dX5_costs_33
def wp_X5_costs (σa : Rg) (μa : Ar) (σb : Rg) (μb : Ar) (x1 : Int32) (Q : Int32 → Rg → Ar → Rg → Ar → Prop) : Prop := wp_X4_isOn σa μa  (fun r4 σa4 μa4 => ((r4 = 0 → wb_X5_costs_32 Q σa4 μa4 σb μb) ∧ (¬ r4 = 0 → ((¬ (σa4 15) = 0 → wb_X5_costs_32 Q σa4 μa4 σb μb) ∧ ((σa4 15) = 0 → wp_X5_within x1 (1 : Int32) (4 : Int32) (fun r26 => ((¬ r26 = 0 → wp_X4_costOf σa4 μa4 ((3 : Int32) + x1) (fun r41 σa41 μa41 => Q r41 σa41 μa41 σb μb)) ∧ (r26 = 0 → wb_X5_costs_32 Q σa4 μa4 σb μb))))))))
set_option maxHeartbeats 4000000 in
set_option maxRecDepth 100000 in
theorem ct_X5_costs (l : Launch) (D : va_G) (cy : ClassId) (x0 : Nat) (Aa Ab : Nat → Nat) (hap : apX x0 Aa Ab) {σa : Rg} {μa : Ar} {σb : Rg} {μb : Ar} {x1 : Int32} {Q : Int32 → Rg → Ar → Rg → Ar → Prop} (h : wp_X5_costs σa μa σb μb x1 Q) : Ct l yX5_costs cX5_costs 2 (some FieldType.int) rmX5_costs D [(cy, .int)] (fun H => va_P D vwCl (wS Aa cy σa μa) H ∧ va_P D vwCl (wS Ab cy σb μb) H ∧ va_P D vwCl (wX x0 Aa Ab) H) [.ref x0, .int x1] (AX Aa Ab) (PXi x0 Aa Ab cy D Q) := by
  refine Ct.of (by decide) (Nat.le_of_ble_eq_true rfl) ?_
  intro p e s m below meth c ls C hP hl
  obtain ⟨hPa, hPb, hPx⟩ := hP
  have hl : lv_has ls 2 [(0, .ref x0), (1, .int x1)] := hl
  have hS : va_S (AX Aa Ab) s.heap s.heap [] := va_S.rf
  have hx := C.1
  have hb := C.2.1
  refine lv_aload_n hx hb dX5_costs_0 rfl (lv_at hl 0 rfl) ?_
  refine gX_store C hPx (C.2.2.2.2.2.2.1 _ wq_336) dX5_costs_1 ?_
  refine kWi (rnVN C (ct_X4_isOn l D cy Aa hap.1 h) yv_X4_isOn wn_366 ⟨rfl, rfl⟩ ⟨Nat.le_of_ble_eq_true rfl, Nat.le_of_ble_eq_true rfl⟩ ⟨Nat.zero_le _, Nat.zero_le _⟩ (vS_store C hPa) hPa hl.1 rfl rfl (Nat.le_of_ble_eq_true rfl) dX5_costs_4) hS (fun _ h => Or.inl h) (fun r4 σa4 μa4 H locs h hPa hk hS => ?_)
  have hPb := keepW rS hap.2.2.1 hPb hk
  have hPx := keepW (rX (x0 := x0) (Aa := Aa) (Ab := Ab)) (fun _ _ => hap.2.2.2.2.1) hPx hk
  refine lv_if_eq (tgt := 32) hx hb dX5_costs_7 (by decide) (fun hc => ?_) (fun hc => ?_)
  · have h := h.1 hc
    exact wk_X5_costs_32 C hap h hPa hPb hPx hS (lv_sub hl [] rfl)
  · have h := h.2 hc
    refine lv_aload_n hx hb dX5_costs_10 rfl (lv_at hl 0 rfl) ?_
    refine gX_store C hPx (C.2.2.2.2.2.2.1 _ wq_336) dX5_costs_11 ?_
    refine gnS_store_change C hPa (NW.use C.2.2.2.2.2.2.2.2 wn_314) dX5_costs_14 ?_
    refine gnS_change_begun C hPa (NW.use C.2.2.2.2.2.2.2.2 wn_267) dX5_costs_17 ?_
    refine lv_if_ne (tgt := 32) hx hb dX5_costs_20 (by decide) (fun hc => ?_) (fun hc => ?_)
    · have h := h.1 hc
      exact wk_X5_costs_32 C hap h hPa hPb hPx hS (lv_sub hl [] rfl)
    · have h := h.2 hc
      refine lv_iload_n hx hb dX5_costs_23 rfl (lv_at hl 1 rfl) ?_
      refine lv_iconst (v := 1) hx hb dX5_costs_24 (by decide) ?_
      refine lv_iconst (v := 4) hx hb dX5_costs_25 (by decide) ?_
      refine kNi (rnS (C.none) (ct_X5_within l D h) ys_X5_within wq_347 ⟨rfl, rfl⟩ ⟨Nat.le_of_ble_eq_true rfl, Nat.le_of_ble_eq_true rfl⟩ ⟨Nat.zero_le _, Nat.zero_le _⟩ trivial hl.1 rfl rfl (Nat.le_of_ble_eq_true rfl) dX5_costs_26) hS (fun _ h => h.elim) (fun r26 H locs h hk hS => ?_)
      have hPa := keepN hPa hk
      have hPb := keepN hPb hk
      have hPx := keepN hPx hk
      refine lv_if_ne (tgt := 34) hx hb dX5_costs_29 (by decide) (fun hc => ?_) (fun hc => ?_)
      · have h := h.1 hc
        refine lv_aload_n hx hb dX5_costs_34 rfl (lv_at hl 0 rfl) ?_
        refine gX_store C hPx (C.2.2.2.2.2.2.1 _ wq_336) dX5_costs_35 ?_
        refine lv_iconst (v := 3) hx hb dX5_costs_38 (by decide) ?_
        refine lv_iload_n hx hb dX5_costs_39 rfl (lv_at hl 1 rfl) ?_
        refine lv_iadd hx hb dX5_costs_40 ?_
        refine kWi (rnVN C (ct_X4_costOf l D cy Aa hap.1 h) yv_X4_costOf wn_751 ⟨rfl, rfl⟩ ⟨Nat.le_of_ble_eq_true rfl, Nat.le_of_ble_eq_true rfl⟩ ⟨Nat.zero_le _, Nat.zero_le _⟩ (vS_store C hPa) hPa hl.1 rfl rfl (Nat.le_of_ble_eq_true rfl) dX5_costs_41) hS (fun _ h => Or.inl h) (fun r41 σa41 μa41 H locs h hPa hk hS => ?_)
        have hPb := keepW rS hap.2.2.1 hPb hk
        have hPx := keepW (rX (x0 := x0) (Aa := Aa) (Ab := Ab)) (fun _ _ => hap.2.2.2.2.1) hPx hk
        exact endI C hS ⟨_, _, _, _, _, rfl, h, hPa, hPb, hPx⟩ dX5_costs_44
      · have h := h.2 hc
        exact wk_X5_costs_32 C hap h hPa hPb hPx hS (lv_sub hl [] rfl)
abbrev rmX5_torn : Room := { frames := 6, cells := 0, slots := 0, locals := 141 }
def wb_X5_torn_31 (Q : Int64 → Rg → Ar → Rg → Ar → Prop) (σa : Rg) (μa : Ar) (σb : Rg) (μb : Ar) : Prop := Q (-1 : Int64) σa μa σb μb
set_option maxHeartbeats 4000000 in
set_option maxRecDepth 100000 in
theorem wk_X5_torn_31 {p : Program} {l : Launch} {e : Env} {s : State} {m : MethodId} {args : Array Value} {below : List Frame} {meth : Method} {c : Code} {D : va_G} {cy : ClassId} {x0 : Nat} {Aa Ab : Nat → Nat} (C : Cx p s m args meth c RX5 cX5_torn 8 (some FieldType.long) D [(cy, .int)]) (hap : apX x0 Aa Ab) {Q : Int64 → Rg → Ar → Rg → Ar → Prop} {σa : Rg} {μa : Ar} {σb : Rg} {μb : Ar}  {H : Heap} {locs : List Loc} {ls : Array Slot} (h : wb_X5_torn_31 Q σa μa σb μb) (hPa : va_P D vwCl (wS Aa cy σa μa) H) (hPb : va_P D vwCl (wS Ab cy σb μb) H) (hPx : va_P D vwCl (wX x0 Aa Ab) H) (hS : va_S (AX Aa Ab) s.heap H locs) (hl : lv_has ls 8 []) : W p l e rmX5_torn s m args below meth c H locs 0 0 (MQ below (Qcg (PXl x0 Aa Ab cy D Q) (AX Aa Ab)) args s 0 0 (AX Aa Ab)) (F0 m 31 ls []) := by
  have hx := C.1
  have hb := C.2.1
  refine lv_ldc2 hx hb C.2.2.2.1 (C.2.2.2.2.2.2.1 _ wq_694) dX5_torn_31 ?_
  exact endL C hS ⟨_, _, _, _, _, rfl, h, hPa, hPb, hPx⟩ dX5_torn_34
def wb_X5_torn_76 (Q : Int64 → Rg → Ar → Rg → Ar → Prop) (σa : Rg) (μa : Ar) (σb : Rg) (μb : Ar) : Prop := Q (-1 : Int64) σa μa σb μb
set_option maxHeartbeats 4000000 in
set_option maxRecDepth 100000 in
theorem wk_X5_torn_76 {p : Program} {l : Launch} {e : Env} {s : State} {m : MethodId} {args : Array Value} {below : List Frame} {meth : Method} {c : Code} {D : va_G} {cy : ClassId} {x0 : Nat} {Aa Ab : Nat → Nat} (C : Cx p s m args meth c RX5 cX5_torn 8 (some FieldType.long) D [(cy, .int)]) (hap : apX x0 Aa Ab) {Q : Int64 → Rg → Ar → Rg → Ar → Prop} {σa : Rg} {μa : Ar} {σb : Rg} {μb : Ar}  {H : Heap} {locs : List Loc} {ls : Array Slot} (h : wb_X5_torn_76 Q σa μa σb μb) (hPa : va_P D vwCl (wS Aa cy σa μa) H) (hPb : va_P D vwCl (wS Ab cy σb μb) H) (hPx : va_P D vwCl (wX x0 Aa Ab) H) (hS : va_S (AX Aa Ab) s.heap H locs) (hl : lv_has ls 8 []) : W p l e rmX5_torn s m args below meth c H locs 0 0 (MQ below (Qcg (PXl x0 Aa Ab cy D Q) (AX Aa Ab)) args s 0 0 (AX Aa Ab)) (F0 m 76 ls []) := by
  have hx := C.1
  have hb := C.2.1
  refine lv_ldc2 hx hb C.2.2.2.1 (C.2.2.2.2.2.2.1 _ wq_694) dX5_torn_76 ?_
  exact endL C hS ⟨_, _, _, _, _, rfl, h, hPa, hPb, hPx⟩ dX5_torn_79
def wp_X5_torn (σa : Rg) (μa : Ar) (σb : Rg) (μb : Ar) (x1 : Int32) (x2 : Int32) (x3 : Int32) (x4 : Int32) (x5 : Int32) (x6 : Int32) (Q : Int64 → Rg → Ar → Rg → Ar → Prop) : Prop := wp_X4_isOn σa μa  (fun r4 σa4 μa4 => ((r4 = 0 → wb_X5_torn_31 Q σa4 μa4 σb μb) ∧ (¬ r4 = 0 → ((¬ (σa4 15) = 0 → wb_X5_torn_31 Q σa4 μa4 σb μb) ∧ ((σa4 15) = 0 → wp_X5_isSetting x1 x3 (fun r25 => ((¬ r25 = 0 → wp_X4_costOf σa4 μa4 ((3 : Int32) + x3) (fun r45 σa45 μa45 => wp_X5_within x4 (1 : Int32) r45 (fun r48 => ((r48 = 0 → wb_X5_torn_76 Q σa45 μa45 σb μb) ∧ (¬ r48 = 0 → wp_X5_within x5 (0 : Int32) (255 : Int32) (fun r60 => ((r60 = 0 → wb_X5_torn_76 Q σa45 μa45 σb μb) ∧ (¬ r60 = 0 → wp_X5_within x6 (0 : Int32) (3 : Int32) (fun r70 => ((¬ r70 = 0 → wp_X4_copyFrom σa45 μa45 σb μb  (fun σb88 μb88 => wp_X1_arm σb88 μb88 x4 x5 (fun σb102 μb102 => wp_X4_keep σb102 μb102 x1 x2 x3 (fun r112 σb112 μb112 => wp_X4_switchOn σb112 μb112  (fun r120 σb120 μb120 => (((x6).toInt < 0 ∨ 2 < (x6).toInt → Q (r120).toInt64 σa45 μa45 σb120 μb120) ∧ (x6 = 0 → wp_X4_look σb120 μb120  (fun σb156 μb156 => wp_X3_newestValue σb156 μb156 x1 (fun r160 σb160 μb160 => Q r160 σa45 μa45 σb160 μb160))) ∧ (x6 = 1 → wp_X4_look σb120 μb120  (fun σb168 μb168 => wp_X3_freeBytes σb168 μb168  (fun r171 σb171 μb171 => Q (r171).toInt64 σa45 μa45 σb171 μb171))) ∧ (x6 = 2 → Q ((σb120 6)).toInt64 σa45 μa45 σb120 μb120))))))) ∧ (r70 = 0 → wb_X5_torn_76 Q σa45 μa45 σb μb))))))))))) ∧ (r25 = 0 → wb_X5_torn_31 Q σa4 μa4 σb μb))))))))
set_option maxHeartbeats 4000000 in
set_option maxRecDepth 100000 in
theorem ct_X5_torn (l : Launch) (D : va_G) (cy : ClassId) (x0 : Nat) (Aa Ab : Nat → Nat) (hap : apX x0 Aa Ab) {σa : Rg} {μa : Ar} {σb : Rg} {μb : Ar} {x1 : Int32} {x2 : Int32} {x3 : Int32} {x4 : Int32} {x5 : Int32} {x6 : Int32} {Q : Int64 → Rg → Ar → Rg → Ar → Prop} (h : wp_X5_torn σa μa σb μb x1 x2 x3 x4 x5 x6 Q) : Ct l yX5_torn cX5_torn 8 (some FieldType.long) rmX5_torn D [(cy, .int)] (fun H => va_P D vwCl (wS Aa cy σa μa) H ∧ va_P D vwCl (wS Ab cy σb μb) H ∧ va_P D vwCl (wX x0 Aa Ab) H) [.ref x0, .int x1, .int x2, .int x3, .int x4, .int x5, .int x6] (AX Aa Ab) (PXl x0 Aa Ab cy D Q) := by
  refine Ct.of (by decide) (Nat.le_of_ble_eq_true rfl) ?_
  intro p e s m below meth c ls C hP hl
  obtain ⟨hPa, hPb, hPx⟩ := hP
  have hl : lv_has ls 8 [(0, .ref x0), (1, .int x1), (2, .int x2), (3, .int x3), (4, .int x4), (5, .int x5), (6, .int x6)] := hl
  have hS : va_S (AX Aa Ab) s.heap s.heap [] := va_S.rf
  have hx := C.1
  have hb := C.2.1
  refine lv_aload_n hx hb dX5_torn_0 rfl (lv_at hl 0 rfl) ?_
  refine gX_store C hPx (C.2.2.2.2.2.2.1 _ wq_336) dX5_torn_1 ?_
  refine kWi (rnVN C (ct_X4_isOn l D cy Aa hap.1 h) yv_X4_isOn wn_366 ⟨rfl, rfl⟩ ⟨Nat.le_of_ble_eq_true rfl, Nat.le_of_ble_eq_true rfl⟩ ⟨Nat.zero_le _, Nat.zero_le _⟩ (vS_store C hPa) hPa hl.1 rfl rfl (Nat.le_of_ble_eq_true rfl) dX5_torn_4) hS (fun _ h => Or.inl h) (fun r4 σa4 μa4 H locs h hPa hk hS => ?_)
  have hPb := keepW rS hap.2.2.1 hPb hk
  have hPx := keepW (rX (x0 := x0) (Aa := Aa) (Ab := Ab)) (fun _ _ => hap.2.2.2.2.1) hPx hk
  refine lv_if_eq (tgt := 31) hx hb dX5_torn_7 (by decide) (fun hc => ?_) (fun hc => ?_)
  · have h := h.1 hc
    exact wk_X5_torn_31 C hap h hPa hPb hPx hS (lv_sub hl [] rfl)
  · have h := h.2 hc
    refine lv_aload_n hx hb dX5_torn_10 rfl (lv_at hl 0 rfl) ?_
    refine gX_store C hPx (C.2.2.2.2.2.2.1 _ wq_336) dX5_torn_11 ?_
    refine gnS_store_change C hPa (NW.use C.2.2.2.2.2.2.2.2 wn_314) dX5_torn_14 ?_
    refine gnS_change_begun C hPa (NW.use C.2.2.2.2.2.2.2.2 wn_267) dX5_torn_17 ?_
    refine lv_if_ne (tgt := 31) hx hb dX5_torn_20 (by decide) (fun hc => ?_) (fun hc => ?_)
    · have h := h.1 hc
      exact wk_X5_torn_31 C hap h hPa hPb hPx hS (lv_sub hl [] rfl)
    · have h := h.2 hc
      refine lv_iload_n hx hb dX5_torn_23 rfl (lv_at hl 1 rfl) ?_
      refine lv_iload_n hx hb dX5_torn_24 rfl (lv_at hl 3 rfl) ?_
      refine kNi (rnS (C.none) (ct_X5_isSetting l D h) ys_X5_isSetting wq_539 ⟨rfl, rfl⟩ ⟨Nat.le_of_ble_eq_true rfl, Nat.le_of_ble_eq_true rfl⟩ ⟨Nat.zero_le _, Nat.zero_le _⟩ trivial hl.1 rfl rfl (Nat.le_of_ble_eq_true rfl) dX5_torn_25) hS (fun _ h => h.elim) (fun r25 H locs h hk hS => ?_)
      have hPa := keepN hPa hk
      have hPb := keepN hPb hk
      have hPx := keepN hPx hk
      refine lv_if_ne (tgt := 35) hx hb dX5_torn_28 (by decide) (fun hc => ?_) (fun hc => ?_)
      · have h := h.1 hc
        refine lv_iload hx hb dX5_torn_35 (lv_at hl 4 rfl) ?_
        refine lv_iconst (v := 1) hx hb dX5_torn_37 (by decide) ?_
        refine lv_aload_n hx hb dX5_torn_38 rfl (lv_at hl 0 rfl) ?_
        refine gX_store C hPx (C.2.2.2.2.2.2.1 _ wq_336) dX5_torn_39 ?_
        refine lv_iconst (v := 3) hx hb dX5_torn_42 (by decide) ?_
        refine lv_iload_n hx hb dX5_torn_43 rfl (lv_at hl 3 rfl) ?_
        refine lv_iadd hx hb dX5_torn_44 ?_
        refine kWi (rnVN C (ct_X4_costOf l D cy Aa hap.1 h) yv_X4_costOf wn_751 ⟨rfl, rfl⟩ ⟨Nat.le_of_ble_eq_true rfl, Nat.le_of_ble_eq_true rfl⟩ ⟨Nat.zero_le _, Nat.zero_le _⟩ (vS_store C hPa) hPa hl.1 rfl rfl (Nat.le_of_ble_eq_true rfl) dX5_torn_45) hS (fun _ h => Or.inl h) (fun r45 σa45 μa45 H locs h hPa hk hS => ?_)
        have hPb := keepW rS hap.2.2.1 hPb hk
        have hPx := keepW (rX (x0 := x0) (Aa := Aa) (Ab := Ab)) (fun _ _ => hap.2.2.2.2.1) hPx hk
        refine kNi (rnS (C.none) (ct_X5_within l D h) ys_X5_within wq_347 ⟨rfl, rfl⟩ ⟨Nat.le_of_ble_eq_true rfl, Nat.le_of_ble_eq_true rfl⟩ ⟨Nat.zero_le _, Nat.zero_le _⟩ trivial hl.1 rfl rfl (Nat.le_of_ble_eq_true rfl) dX5_torn_48) hS (fun _ h => h.elim) (fun r48 H locs h hk hS => ?_)
        have hPa := keepN hPa hk
        have hPb := keepN hPb hk
        have hPx := keepN hPx hk
        refine lv_if_eq (tgt := 76) hx hb dX5_torn_51 (by decide) (fun hc => ?_) (fun hc => ?_)
        · have h := h.1 hc
          exact wk_X5_torn_76 C hap h hPa hPb hPx hS (lv_sub hl [] rfl)
        · have h := h.2 hc
          refine lv_iload hx hb dX5_torn_54 (lv_at hl 5 rfl) ?_
          refine lv_iconst (v := 0) hx hb dX5_torn_56 (by decide) ?_
          refine lv_sipush (v := 255) hx hb dX5_torn_57 (by decide) ?_
          refine kNi (rnS (C.none) (ct_X5_within l D h) ys_X5_within wq_347 ⟨rfl, rfl⟩ ⟨Nat.le_of_ble_eq_true rfl, Nat.le_of_ble_eq_true rfl⟩ ⟨Nat.zero_le _, Nat.zero_le _⟩ trivial hl.1 rfl rfl (Nat.le_of_ble_eq_true rfl) dX5_torn_60) hS (fun _ h => h.elim) (fun r60 H locs h hk hS => ?_)
          have hPa := keepN hPa hk
          have hPb := keepN hPb hk
          have hPx := keepN hPx hk
          refine lv_if_eq (tgt := 76) hx hb dX5_torn_63 (by decide) (fun hc => ?_) (fun hc => ?_)
          · have h := h.1 hc
            exact wk_X5_torn_76 C hap h hPa hPb hPx hS (lv_sub hl [] rfl)
          · have h := h.2 hc
            refine lv_iload hx hb dX5_torn_66 (lv_at hl 6 rfl) ?_
            refine lv_iconst (v := 0) hx hb dX5_torn_68 (by decide) ?_
            refine lv_iconst (v := 3) hx hb dX5_torn_69 (by decide) ?_
            refine kNi (rnS (C.none) (ct_X5_within l D h) ys_X5_within wq_347 ⟨rfl, rfl⟩ ⟨Nat.le_of_ble_eq_true rfl, Nat.le_of_ble_eq_true rfl⟩ ⟨Nat.zero_le _, Nat.zero_le _⟩ trivial hl.1 rfl rfl (Nat.le_of_ble_eq_true rfl) dX5_torn_70) hS (fun _ h => h.elim) (fun r70 H locs h hk hS => ?_)
            have hPa := keepN hPa hk
            have hPb := keepN hPb hk
            have hPx := keepN hPx hk
            refine lv_if_ne (tgt := 80) hx hb dX5_torn_73 (by decide) (fun hc => ?_) (fun hc => ?_)
            · have h := h.1 hc
              refine lv_aload_n hx hb dX5_torn_80 rfl (lv_at hl 0 rfl) ?_
              refine gX_trial C hPx (C.2.2.2.2.2.2.1 _ wq_337) dX5_torn_81 ?_
              refine lv_aload_n hx hb dX5_torn_84 rfl (lv_at hl 0 rfl) ?_
              refine gX_store C hPx (C.2.2.2.2.2.2.1 _ wq_336) dX5_torn_85 ?_
              refine kZv (rnVN C (ct_X4_copyFrom l D cy Aa Ab (apX.ss hap) h) yv_X4_copyFrom wn_767 ⟨rfl, rfl⟩ ⟨Nat.le_of_ble_eq_true rfl, Nat.le_of_ble_eq_true rfl⟩ ⟨Nat.zero_le _, Nat.zero_le _⟩ (vS_store C hPb) ⟨hPa, hPb⟩ hl.1 rfl rfl (Nat.le_of_ble_eq_true rfl) dX5_torn_88) hS (fun _ h => Or.symm h) (fun σb88 μb88 H locs h hPb hPa hk hS => ?_)
              have hPx := keepW (rX (x0 := x0) (Aa := Aa) (Ab := Ab)) (fun _ _ h => h.elim hap.2.2.2.2.2 hap.2.2.2.2.1) hPx hk
              refine lv_aload_n hx hb dX5_torn_91 rfl (lv_at hl 0 rfl) ?_
              refine gX_trial C hPx (C.2.2.2.2.2.2.1 _ wq_337) dX5_torn_92 ?_
              refine gnS_store_chip C hPb (NW.use C.2.2.2.2.2.2.2.2 wn_310) dX5_torn_95 ?_
              refine lv_iload hx hb dX5_torn_98 (lv_at hl 4 rfl) ?_
              refine lv_iload hx hb dX5_torn_100 (lv_at hl 5 rfl) ?_
              refine kWv (rnVN C (ct_X1_arm l D cy Ab hap.2.1 h) yv_X1_arm wn_522 ⟨rfl, rfl⟩ ⟨Nat.le_of_ble_eq_true rfl, Nat.le_of_ble_eq_true rfl⟩ ⟨Nat.zero_le _, Nat.zero_le _⟩ (vS_chip C hPb) hPb hl.1 rfl rfl (Nat.le_of_ble_eq_true rfl) dX5_torn_102) hS (fun _ h => Or.inr h) (fun σb102 μb102 H locs h hPb hk hS => ?_)
              have hPa := keepW rS hap.2.2.2.1 hPa hk
              have hPx := keepW (rX (x0 := x0) (Aa := Aa) (Ab := Ab)) (fun _ _ => hap.2.2.2.2.2) hPx hk
              refine lv_aload_n hx hb dX5_torn_105 rfl (lv_at hl 0 rfl) ?_
              refine gX_trial C hPx (C.2.2.2.2.2.2.1 _ wq_337) dX5_torn_106 ?_
              refine lv_iload_n hx hb dX5_torn_109 rfl (lv_at hl 1 rfl) ?_
              refine lv_iload_n hx hb dX5_torn_110 rfl (lv_at hl 2 rfl) ?_
              refine lv_iload_n hx hb dX5_torn_111 rfl (lv_at hl 3 rfl) ?_
              refine kWi (rnVN C (ct_X4_keep l D cy Ab hap.2.1 h) yv_X4_keep wn_550 ⟨rfl, rfl⟩ ⟨Nat.le_of_ble_eq_true rfl, Nat.le_of_ble_eq_true rfl⟩ ⟨Nat.zero_le _, Nat.zero_le _⟩ (vS_store C hPb) hPb hl.1 rfl rfl (Nat.le_of_ble_eq_true rfl) dX5_torn_112) hS (fun _ h => Or.inr h) (fun r112 σb112 μb112 H locs h hPb hk hS => ?_)
              have hPa := keepW rS hap.2.2.2.1 hPa hk
              have hPx := keepW (rX (x0 := x0) (Aa := Aa) (Ab := Ab)) (fun _ _ => hap.2.2.2.2.2) hPx hk
              refine lv_pop hx hb dX5_torn_115 rfl ?_
              refine lv_aload_n hx hb dX5_torn_116 rfl (lv_at hl 0 rfl) ?_
              refine gX_trial C hPx (C.2.2.2.2.2.2.1 _ wq_337) dX5_torn_117 ?_
              refine kWi (rnVN C (ct_X4_switchOn l D cy Ab hap.2.1 h) yv_X4_switchOn wn_370 ⟨rfl, rfl⟩ ⟨Nat.le_of_ble_eq_true rfl, Nat.le_of_ble_eq_true rfl⟩ ⟨Nat.zero_le _, Nat.zero_le _⟩ (vS_store C hPb) hPb hl.1 rfl rfl (Nat.le_of_ble_eq_true rfl) dX5_torn_120) hS (fun _ h => Or.inr h) (fun r120 σb120 μb120 H locs h hPb hk hS => ?_)
              have hPa := keepW rS hap.2.2.2.1 hPa hk
              have hPx := keepW (rX (x0 := x0) (Aa := Aa) (Ab := Ab)) (fun _ _ => hap.2.2.2.2.2) hPx hk
              refine lv_istore (lv' := [(7, .int r120), (0, .ref x0), (1, .int x1), (2, .int x2), (3, .int x3), (4, .int x4), (5, .int x5), (6, .int x6)]) hx hb dX5_torn_123 hl (by decide) rfl (fun ls hl => ?_)
              refine lv_iload hx hb dX5_torn_125 (lv_at hl 7 rfl) ?_
              by_cases hc : (x6).toInt < 0 ∨ 2 < (x6).toInt
              · have h := h.1 hc
                refine lv_tableOut (tgt := 188) hx hb dX5_torn_127 hc (by decide) ?_
                refine lv_iload hx hb dX5_torn_188 (lv_at hl 0 rfl) ?_
                refine lv_i2l hx hb dX5_torn_190 rfl ?_
                exact endL C hS ⟨_, _, _, _, _, rfl, h, hPa, hPb, hPx⟩ dX5_torn_191
              · have hr : (x6).toInt = 0 ∨ (x6).toInt = 1 ∨ (x6).toInt = 2 := by omega
                rcases hr with hr | hr | hr
                · have h := h.2.1 (Int32.toInt_inj.mp (by rw [hr]; rfl))
                  refine lv_tableIn (off := 25) (tgt := 152) hx hb dX5_torn_127 (by omega) (by omega) (by rw [hr]; rfl) (by decide) ?_
                  refine lv_aload_n hx hb dX5_torn_152 rfl (lv_at hl 1 rfl) ?_
                  refine gX_trial C hPx (C.2.2.2.2.2.2.1 _ wq_337) dX5_torn_153 ?_
                  refine kWr (rnVN C (ct_X4_look l D cy Ab hap.2.1 h) yv_X4_look wn_695 ⟨rfl, rfl⟩ ⟨Nat.le_of_ble_eq_true rfl, Nat.le_of_ble_eq_true rfl⟩ ⟨Nat.zero_le _, Nat.zero_le _⟩ (vS_store C hPb) hPb hl.1 rfl rfl (Nat.le_of_ble_eq_true rfl) dX5_torn_156) hS (fun _ h => Or.inr h) (fun σb156 μb156 H locs h hPb hk hS => ?_)
                  have hPa := keepW rS hap.2.2.2.1 hPa hk
                  have hPx := keepW (rX (x0 := x0) (Aa := Aa) (Ab := Ab)) (fun _ _ => hap.2.2.2.2.2) hPx hk
                  refine lv_iload_n hx hb dX5_torn_159 rfl (lv_at hl 2 rfl) ?_
                  refine kWl (rnVN C (ct_X3_newestValue l D cy Ab hap.2.1 h) yv_X3_newestValue wn_696 ⟨rfl, rfl⟩ ⟨Nat.le_of_ble_eq_true rfl, Nat.le_of_ble_eq_true rfl⟩ ⟨Nat.zero_le _, Nat.zero_le _⟩ (vS_reading C hPb) hPb hl.1 rfl rfl (Nat.le_of_ble_eq_true rfl) dX5_torn_160) hS (fun _ h => Or.inr h) (fun r160 σb160 μb160 H locs h hPb hk hS => ?_)
                  have hPa := keepW rS hap.2.2.2.1 hPa hk
                  have hPx := keepW (rX (x0 := x0) (Aa := Aa) (Ab := Ab)) (fun _ _ => hap.2.2.2.2.2) hPx hk
                  exact endL C hS ⟨_, _, _, _, _, rfl, h, hPa, hPb, hPx⟩ dX5_torn_163
                · have h := h.2.2.1 (Int32.toInt_inj.mp (by rw [hr]; rfl))
                  refine lv_tableIn (off := 37) (tgt := 164) hx hb dX5_torn_127 (by omega) (by omega) (by rw [hr]; rfl) (by decide) ?_
                  refine lv_aload_n hx hb dX5_torn_164 rfl (lv_at hl 1 rfl) ?_
                  refine gX_trial C hPx (C.2.2.2.2.2.2.1 _ wq_337) dX5_torn_165 ?_
                  refine kWr (rnVN C (ct_X4_look l D cy Ab hap.2.1 h) yv_X4_look wn_695 ⟨rfl, rfl⟩ ⟨Nat.le_of_ble_eq_true rfl, Nat.le_of_ble_eq_true rfl⟩ ⟨Nat.zero_le _, Nat.zero_le _⟩ (vS_store C hPb) hPb hl.1 rfl rfl (Nat.le_of_ble_eq_true rfl) dX5_torn_168) hS (fun _ h => Or.inr h) (fun σb168 μb168 H locs h hPb hk hS => ?_)
                  have hPa := keepW rS hap.2.2.2.1 hPa hk
                  have hPx := keepW (rX (x0 := x0) (Aa := Aa) (Ab := Ab)) (fun _ _ => hap.2.2.2.2.2) hPx hk
                  refine kWi (rnVN C (ct_X3_freeBytes l D cy Ab hap.2.1 h) yv_X3_freeBytes wn_741 ⟨rfl, rfl⟩ ⟨Nat.le_of_ble_eq_true rfl, Nat.le_of_ble_eq_true rfl⟩ ⟨Nat.zero_le _, Nat.zero_le _⟩ (vS_reading C hPb) hPb hl.1 rfl rfl (Nat.le_of_ble_eq_true rfl) dX5_torn_171) hS (fun _ h => Or.inr h) (fun r171 σb171 μb171 H locs h hPb hk hS => ?_)
                  have hPa := keepW rS hap.2.2.2.1 hPa hk
                  have hPx := keepW (rX (x0 := x0) (Aa := Aa) (Ab := Ab)) (fun _ _ => hap.2.2.2.2.2) hPx hk
                  refine lv_i2l hx hb dX5_torn_174 rfl ?_
                  exact endL C hS ⟨_, _, _, _, _, rfl, h, hPa, hPb, hPx⟩ dX5_torn_175
                · have h := h.2.2.2 (Int32.toInt_inj.mp (by rw [hr]; rfl))
                  refine lv_tableIn (off := 49) (tgt := 176) hx hb dX5_torn_127 (by omega) (by omega) (by rw [hr]; rfl) (by decide) ?_
                  refine lv_aload_n hx hb dX5_torn_176 rfl (lv_at hl 1 rfl) ?_
                  refine gX_trial C hPx (C.2.2.2.2.2.2.1 _ wq_337) dX5_torn_177 ?_
                  refine gnS_store_chip C hPb (NW.use C.2.2.2.2.2.2.2.2 wn_310) dX5_torn_180 ?_
                  refine gnS_chip_doings C hPb (NW.use C.2.2.2.2.2.2.2.2 wn_180) dX5_torn_183 ?_
                  refine lv_i2l hx hb dX5_torn_186 rfl ?_
                  exact endL C hS ⟨_, _, _, _, _, rfl, h, hPa, hPb, hPx⟩ dX5_torn_187
            · have h := h.2 hc
              exact wk_X5_torn_76 C hap h hPa hPb hPx hS (lv_sub hl [] rfl)
      · have h := h.2 hc
        exact wk_X5_torn_31 C hap h hPa hPb hPx hS (lv_sub hl [] rfl)
abbrev rmX5_history : Room := { frames := 5, cells := 0, slots := 0, locals := 117 }
def wb_X5_history_22 (Q : Int64 → Rg → Ar → Rg → Ar → Prop) (σa : Rg) (μa : Ar) (σb : Rg) (μb : Ar) : Prop := Q (-1 : Int64) σa μa σb μb
set_option maxHeartbeats 4000000 in
set_option maxRecDepth 100000 in
theorem wk_X5_history_22 {p : Program} {l : Launch} {e : Env} {s : State} {m : MethodId} {args : Array Value} {below : List Frame} {meth : Method} {c : Code} {D : va_G} {cy : ClassId} {x0 : Nat} {Aa Ab : Nat → Nat} (C : Cx p s m args meth c RX5 cX5_history 4 (some FieldType.long) D [(cy, .int)]) (hap : apX x0 Aa Ab) {Q : Int64 → Rg → Ar → Rg → Ar → Prop} {σa : Rg} {μa : Ar} {σb : Rg} {μb : Ar}  {H : Heap} {locs : List Loc} {ls : Array Slot} (h : wb_X5_history_22 Q σa μa σb μb) (hPa : va_P D vwCl (wS Aa cy σa μa) H) (hPb : va_P D vwCl (wS Ab cy σb μb) H) (hPx : va_P D vwCl (wX x0 Aa Ab) H) (hS : va_S (AX Aa Ab) s.heap H locs) (hl : lv_has ls 4 []) : W p l e rmX5_history s m args below meth c H locs 0 0 (MQ below (Qcg (PXl x0 Aa Ab cy D Q) (AX Aa Ab)) args s 0 0 (AX Aa Ab)) (F0 m 22 ls []) := by
  have hx := C.1
  have hb := C.2.1
  refine lv_ldc2 hx hb C.2.2.2.1 (C.2.2.2.2.2.2.1 _ wq_694) dX5_history_22 ?_
  exact endL C hS ⟨_, _, _, _, _, rfl, h, hPa, hPb, hPx⟩ dX5_history_25
def wp_X5_history (σa : Rg) (μa : Ar) (σb : Rg) (μb : Ar) (x1 : Int32) (x2 : Int32) (Q : Int64 → Rg → Ar → Rg → Ar → Prop) : Prop := wp_X4_isOn σa μa  (fun r4 σa4 μa4 => ((r4 = 0 → wb_X5_history_22 Q σa4 μa4 σb μb) ∧ (¬ r4 = 0 → wp_X5_isTag x1 (fun r11 => ((r11 = 0 → wb_X5_history_22 Q σa4 μa4 σb μb) ∧ (¬ r11 = 0 → (((-1 : Int32) ≤ x2 → wp_X4_look σa4 μa4  (fun σa30 μa30 => ((¬ x2 = (-1 : Int32) → wp_X3_earlierValue σa30 μa30 x1 x2 (fun r49 σa49 μa49 => Q r49 σa49 μa49 σb μb)) ∧ (x2 = (-1 : Int32) → wp_X3_tellingOf σa30 μa30 x1 (fun r41 σa41 μa41 => Q (r41).toInt64 σa41 μa41 σb μb))))) ∧ (¬ (-1 : Int32) ≤ x2 → wb_X5_history_22 Q σa4 μa4 σb μb))))))))
set_option maxHeartbeats 4000000 in
set_option maxRecDepth 100000 in
theorem ct_X5_history (l : Launch) (D : va_G) (cy : ClassId) (x0 : Nat) (Aa Ab : Nat → Nat) (hap : apX x0 Aa Ab) {σa : Rg} {μa : Ar} {σb : Rg} {μb : Ar} {x1 : Int32} {x2 : Int32} {Q : Int64 → Rg → Ar → Rg → Ar → Prop} (h : wp_X5_history σa μa σb μb x1 x2 Q) : Ct l yX5_history cX5_history 4 (some FieldType.long) rmX5_history D [(cy, .int)] (fun H => va_P D vwCl (wS Aa cy σa μa) H ∧ va_P D vwCl (wS Ab cy σb μb) H ∧ va_P D vwCl (wX x0 Aa Ab) H) [.ref x0, .int x1, .int x2] (AX Aa Ab) (PXl x0 Aa Ab cy D Q) := by
  refine Ct.of (by decide) (Nat.le_of_ble_eq_true rfl) ?_
  intro p e s m below meth c ls C hP hl
  obtain ⟨hPa, hPb, hPx⟩ := hP
  have hl : lv_has ls 4 [(0, .ref x0), (1, .int x1), (2, .int x2)] := hl
  have hS : va_S (AX Aa Ab) s.heap s.heap [] := va_S.rf
  have hx := C.1
  have hb := C.2.1
  refine lv_aload_n hx hb dX5_history_0 rfl (lv_at hl 0 rfl) ?_
  refine gX_store C hPx (C.2.2.2.2.2.2.1 _ wq_336) dX5_history_1 ?_
  refine kWi (rnVN C (ct_X4_isOn l D cy Aa hap.1 h) yv_X4_isOn wn_366 ⟨rfl, rfl⟩ ⟨Nat.le_of_ble_eq_true rfl, Nat.le_of_ble_eq_true rfl⟩ ⟨Nat.zero_le _, Nat.zero_le _⟩ (vS_store C hPa) hPa hl.1 rfl rfl (Nat.le_of_ble_eq_true rfl) dX5_history_4) hS (fun _ h => Or.inl h) (fun r4 σa4 μa4 H locs h hPa hk hS => ?_)
  have hPb := keepW rS hap.2.2.1 hPb hk
  have hPx := keepW (rX (x0 := x0) (Aa := Aa) (Ab := Ab)) (fun _ _ => hap.2.2.2.2.1) hPx hk
  refine lv_if_eq (tgt := 22) hx hb dX5_history_7 (by decide) (fun hc => ?_) (fun hc => ?_)
  · have h := h.1 hc
    exact wk_X5_history_22 C hap h hPa hPb hPx hS (lv_sub hl [] rfl)
  · have h := h.2 hc
    refine lv_iload_n hx hb dX5_history_10 rfl (lv_at hl 1 rfl) ?_
    refine kNi (rnS (C.none) (ct_X5_isTag l D h) ys_X5_isTag wq_693 ⟨rfl, rfl⟩ ⟨Nat.le_of_ble_eq_true rfl, Nat.le_of_ble_eq_true rfl⟩ ⟨Nat.zero_le _, Nat.zero_le _⟩ trivial hl.1 rfl rfl (Nat.le_of_ble_eq_true rfl) dX5_history_11) hS (fun _ h => h.elim) (fun r11 H locs h hk hS => ?_)
    have hPa := keepN hPa hk
    have hPb := keepN hPb hk
    have hPx := keepN hPx hk
    refine lv_if_eq (tgt := 22) hx hb dX5_history_14 (by decide) (fun hc => ?_) (fun hc => ?_)
    · have h := h.1 hc
      exact wk_X5_history_22 C hap h hPa hPb hPx hS (lv_sub hl [] rfl)
    · have h := h.2 hc
      refine lv_iload_n hx hb dX5_history_17 rfl (lv_at hl 2 rfl) ?_
      refine lv_iconst (v := -1) hx hb dX5_history_18 (by decide) ?_
      refine lv_icmp_ge (tgt := 26) hx hb dX5_history_19 (by decide) (fun hc => ?_) (fun hc => ?_)
      · have h := h.1 hc
        refine lv_aload_n hx hb dX5_history_26 rfl (lv_at hl 0 rfl) ?_
        refine gX_store C hPx (C.2.2.2.2.2.2.1 _ wq_336) dX5_history_27 ?_
        refine kWr (rnVN C (ct_X4_look l D cy Aa hap.1 h) yv_X4_look wn_695 ⟨rfl, rfl⟩ ⟨Nat.le_of_ble_eq_true rfl, Nat.le_of_ble_eq_true rfl⟩ ⟨Nat.zero_le _, Nat.zero_le _⟩ (vS_store C hPa) hPa hl.1 rfl rfl (Nat.le_of_ble_eq_true rfl) dX5_history_30) hS (fun _ h => Or.inl h) (fun σa30 μa30 H locs h hPa hk hS => ?_)
        have hPb := keepW rS hap.2.2.1 hPb hk
        have hPx := keepW (rX (x0 := x0) (Aa := Aa) (Ab := Ab)) (fun _ _ => hap.2.2.2.2.1) hPx hk
        refine lv_astore_n (lv' := [(3, .ref (Aa 4)), (0, .ref x0), (1, .int x1), (2, .int x2)]) hx hb dX5_history_33 rfl hl (by decide) rfl (fun ls hl => ?_)
        refine lv_iload_n hx hb dX5_history_34 rfl (lv_at hl 3 rfl) ?_
        refine lv_iconst (v := -1) hx hb dX5_history_35 (by decide) ?_
        refine lv_icmp_ne (tgt := 46) hx hb dX5_history_36 (by decide) (fun hc => ?_) (fun hc => ?_)
        · have h := h.1 hc
          refine lv_aload_n hx hb dX5_history_46 rfl (lv_at hl 0 rfl) ?_
          refine lv_iload_n hx hb dX5_history_47 rfl (lv_at hl 2 rfl) ?_
          refine lv_iload_n hx hb dX5_history_48 rfl (lv_at hl 3 rfl) ?_
          refine kWl (rnVN C (ct_X3_earlierValue l D cy Aa hap.1 h) yv_X3_earlierValue wn_790 ⟨rfl, rfl⟩ ⟨Nat.le_of_ble_eq_true rfl, Nat.le_of_ble_eq_true rfl⟩ ⟨Nat.zero_le _, Nat.zero_le _⟩ (vS_reading C hPa) hPa hl.1 rfl rfl (Nat.le_of_ble_eq_true rfl) dX5_history_49) hS (fun _ h => Or.inl h) (fun r49 σa49 μa49 H locs h hPa hk hS => ?_)
          have hPb := keepW rS hap.2.2.1 hPb hk
          have hPx := keepW (rX (x0 := x0) (Aa := Aa) (Ab := Ab)) (fun _ _ => hap.2.2.2.2.1) hPx hk
          exact endL C hS ⟨_, _, _, _, _, rfl, h, hPa, hPb, hPx⟩ dX5_history_52
        · have h := h.2 hc
          refine lv_aload_n hx hb dX5_history_39 rfl (lv_at hl 0 rfl) ?_
          refine lv_iload_n hx hb dX5_history_40 rfl (lv_at hl 2 rfl) ?_
          refine kWi (rnVN C (ct_X3_tellingOf l D cy Aa hap.1 h) yv_X3_tellingOf wn_782 ⟨rfl, rfl⟩ ⟨Nat.le_of_ble_eq_true rfl, Nat.le_of_ble_eq_true rfl⟩ ⟨Nat.zero_le _, Nat.zero_le _⟩ (vS_reading C hPa) hPa hl.1 rfl rfl (Nat.le_of_ble_eq_true rfl) dX5_history_41) hS (fun _ h => Or.inl h) (fun r41 σa41 μa41 H locs h hPa hk hS => ?_)
          have hPb := keepW rS hap.2.2.1 hPb hk
          have hPx := keepW (rX (x0 := x0) (Aa := Aa) (Ab := Ab)) (fun _ _ => hap.2.2.2.2.1) hPx hk
          refine lv_i2l hx hb dX5_history_44 rfl ?_
          exact endL C hS ⟨_, _, _, _, _, rfl, h, hPa, hPb, hPx⟩ dX5_history_45
      · have h := h.2 hc
        exact wk_X5_history_22 C hap h hPa hPb hPx hS (lv_sub hl [] rfl)
abbrev rmX5_wears : Room := { frames := 4, cells := 0, slots := 0, locals := 88 }
def wb_X5_wears_30 (Q : Int32 → Rg → Ar → Rg → Ar → Prop) (σa : Rg) (μa : Ar) (σb : Rg) (μb : Ar) : Prop := Q (-1 : Int32) σa μa σb μb
set_option maxHeartbeats 4000000 in
set_option maxRecDepth 100000 in
theorem wk_X5_wears_30 {p : Program} {l : Launch} {e : Env} {s : State} {m : MethodId} {args : Array Value} {below : List Frame} {meth : Method} {c : Code} {D : va_G} {cy : ClassId} {x0 : Nat} {Aa Ab : Nat → Nat} (C : Cx p s m args meth c RX5 cX5_wears 3 (some FieldType.int) D [(cy, .int)]) (hap : apX x0 Aa Ab) {Q : Int32 → Rg → Ar → Rg → Ar → Prop} {σa : Rg} {μa : Ar} {σb : Rg} {μb : Ar}  {H : Heap} {locs : List Loc} {ls : Array Slot} (h : wb_X5_wears_30 Q σa μa σb μb) (hPa : va_P D vwCl (wS Aa cy σa μa) H) (hPb : va_P D vwCl (wS Ab cy σb μb) H) (hPx : va_P D vwCl (wX x0 Aa Ab) H) (hS : va_S (AX Aa Ab) s.heap H locs) (hl : lv_has ls 3 []) : W p l e rmX5_wears s m args below meth c H locs 0 0 (MQ below (Qcg (PXi x0 Aa Ab cy D Q) (AX Aa Ab)) args s 0 0 (AX Aa Ab)) (F0 m 30 ls []) := by
  have hx := C.1
  have hb := C.2.1
  refine lv_iconst (v := -1) hx hb dX5_wears_30 (by decide) ?_
  exact endI C hS ⟨_, _, _, _, _, rfl, h, hPa, hPb, hPx⟩ dX5_wears_31
def wb_X5_wears_91 (Q : Int32 → Rg → Ar → Rg → Ar → Prop) (σa : Rg) (μa : Ar) (σb : Rg) (μb : Ar) (t0 : Int32) : Prop := Q t0 σa μa σb μb
set_option maxHeartbeats 4000000 in
set_option maxRecDepth 100000 in
theorem wk_X5_wears_91 {p : Program} {l : Launch} {e : Env} {s : State} {m : MethodId} {args : Array Value} {below : List Frame} {meth : Method} {c : Code} {D : va_G} {cy : ClassId} {x0 : Nat} {Aa Ab : Nat → Nat} (C : Cx p s m args meth c RX5 cX5_wears 3 (some FieldType.int) D [(cy, .int)]) (hap : apX x0 Aa Ab) {Q : Int32 → Rg → Ar → Rg → Ar → Prop} {σa : Rg} {μa : Ar} {σb : Rg} {μb : Ar} {t0 : Int32} {H : Heap} {locs : List Loc} {ls : Array Slot} (h : wb_X5_wears_91 Q σa μa σb μb t0) (hPa : va_P D vwCl (wS Aa cy σa μa) H) (hPb : va_P D vwCl (wS Ab cy σb μb) H) (hPx : va_P D vwCl (wX x0 Aa Ab) H) (hS : va_S (AX Aa Ab) s.heap H locs) (hl : lv_has ls 3 []) : W p l e rmX5_wears s m args below meth c H locs 0 0 (MQ below (Qcg (PXi x0 Aa Ab cy D Q) (AX Aa Ab)) args s 0 0 (AX Aa Ab)) (F0 m 91 ls [.int t0]) := by
  have hx := C.1
  have hb := C.2.1
  exact endI C hS ⟨_, _, _, _, _, rfl, h, hPa, hPb, hPx⟩ dX5_wears_91
def wp_X5_wears (σa : Rg) (μa : Ar) (σb : Rg) (μb : Ar) (x1 : Int32) (x2 : Int32) (Q : Int32 → Rg → Ar → Rg → Ar → Prop) : Prop := wp_X4_isOn σa μa  (fun r4 σa4 μa4 => ((r4 = 0 → wb_X5_wears_30 Q σa4 μa4 σb μb) ∧ (¬ r4 = 0 → wp_X5_within x1 (0 : Int32) (1000 : Int32) (fun r15 => ((r15 = 0 → wb_X5_wears_30 Q σa4 μa4 σb μb) ∧ (¬ r15 = 0 → wp_X5_within x2 (0 : Int32) (2 : Int32) (fun r24 => ((¬ r24 = 0 → wp_X4_copyFrom σa4 μa4 σb μb  (fun σb40 μb40 => wp_X4_wearOut σb40 μb40 x1 (fun σb48 μb48 => ((¬ x2 = (2 : Int32) → ((¬ x2 = 0 → wp_X1_fewestErases σb48 μb48  (fun r88 σb88 μb88 => wb_X5_wears_91 Q σa4 μa4 σb88 μb88 r88)) ∧ (x2 = 0 → wp_X1_mostErases σb48 μb48  (fun r75 σb75 μb75 => wb_X5_wears_91 Q σa4 μa4 σb75 μb75 r75)))) ∧ (x2 = (2 : Int32) → Q (σb48 0) σa4 μa4 σb48 μb48))))) ∧ (r24 = 0 → wb_X5_wears_30 Q σa4 μa4 σb μb)))))))))
set_option maxHeartbeats 4000000 in
set_option maxRecDepth 100000 in
theorem ct_X5_wears (l : Launch) (D : va_G) (cy : ClassId) (x0 : Nat) (Aa Ab : Nat → Nat) (hap : apX x0 Aa Ab) {σa : Rg} {μa : Ar} {σb : Rg} {μb : Ar} {x1 : Int32} {x2 : Int32} {Q : Int32 → Rg → Ar → Rg → Ar → Prop} (h : wp_X5_wears σa μa σb μb x1 x2 Q) : Ct l yX5_wears cX5_wears 3 (some FieldType.int) rmX5_wears D [(cy, .int)] (fun H => va_P D vwCl (wS Aa cy σa μa) H ∧ va_P D vwCl (wS Ab cy σb μb) H ∧ va_P D vwCl (wX x0 Aa Ab) H) [.ref x0, .int x1, .int x2] (AX Aa Ab) (PXi x0 Aa Ab cy D Q) := by
  refine Ct.of (by decide) (Nat.le_of_ble_eq_true rfl) ?_
  intro p e s m below meth c ls C hP hl
  obtain ⟨hPa, hPb, hPx⟩ := hP
  have hl : lv_has ls 3 [(0, .ref x0), (1, .int x1), (2, .int x2)] := hl
  have hS : va_S (AX Aa Ab) s.heap s.heap [] := va_S.rf
  have hx := C.1
  have hb := C.2.1
  refine lv_aload_n hx hb dX5_wears_0 rfl (lv_at hl 0 rfl) ?_
  refine gX_store C hPx (C.2.2.2.2.2.2.1 _ wq_336) dX5_wears_1 ?_
  refine kWi (rnVN C (ct_X4_isOn l D cy Aa hap.1 h) yv_X4_isOn wn_366 ⟨rfl, rfl⟩ ⟨Nat.le_of_ble_eq_true rfl, Nat.le_of_ble_eq_true rfl⟩ ⟨Nat.zero_le _, Nat.zero_le _⟩ (vS_store C hPa) hPa hl.1 rfl rfl (Nat.le_of_ble_eq_true rfl) dX5_wears_4) hS (fun _ h => Or.inl h) (fun r4 σa4 μa4 H locs h hPa hk hS => ?_)
  have hPb := keepW rS hap.2.2.1 hPb hk
  have hPx := keepW (rX (x0 := x0) (Aa := Aa) (Ab := Ab)) (fun _ _ => hap.2.2.2.2.1) hPx hk
  refine lv_if_eq (tgt := 30) hx hb dX5_wears_7 (by decide) (fun hc => ?_) (fun hc => ?_)
  · have h := h.1 hc
    exact wk_X5_wears_30 C hap h hPa hPb hPx hS (lv_sub hl [] rfl)
  · have h := h.2 hc
    refine lv_iload_n hx hb dX5_wears_10 rfl (lv_at hl 1 rfl) ?_
    refine lv_iconst (v := 0) hx hb dX5_wears_11 (by decide) ?_
    refine lv_sipush (v := 1000) hx hb dX5_wears_12 (by decide) ?_
    refine kNi (rnS (C.none) (ct_X5_within l D h) ys_X5_within wq_347 ⟨rfl, rfl⟩ ⟨Nat.le_of_ble_eq_true rfl, Nat.le_of_ble_eq_true rfl⟩ ⟨Nat.zero_le _, Nat.zero_le _⟩ trivial hl.1 rfl rfl (Nat.le_of_ble_eq_true rfl) dX5_wears_15) hS (fun _ h => h.elim) (fun r15 H locs h hk hS => ?_)
    have hPa := keepN hPa hk
    have hPb := keepN hPb hk
    have hPx := keepN hPx hk
    refine lv_if_eq (tgt := 30) hx hb dX5_wears_18 (by decide) (fun hc => ?_) (fun hc => ?_)
    · have h := h.1 hc
      exact wk_X5_wears_30 C hap h hPa hPb hPx hS (lv_sub hl [] rfl)
    · have h := h.2 hc
      refine lv_iload_n hx hb dX5_wears_21 rfl (lv_at hl 2 rfl) ?_
      refine lv_iconst (v := 0) hx hb dX5_wears_22 (by decide) ?_
      refine lv_iconst (v := 2) hx hb dX5_wears_23 (by decide) ?_
      refine kNi (rnS (C.none) (ct_X5_within l D h) ys_X5_within wq_347 ⟨rfl, rfl⟩ ⟨Nat.le_of_ble_eq_true rfl, Nat.le_of_ble_eq_true rfl⟩ ⟨Nat.zero_le _, Nat.zero_le _⟩ trivial hl.1 rfl rfl (Nat.le_of_ble_eq_true rfl) dX5_wears_24) hS (fun _ h => h.elim) (fun r24 H locs h hk hS => ?_)
      have hPa := keepN hPa hk
      have hPb := keepN hPb hk
      have hPx := keepN hPx hk
      refine lv_if_ne (tgt := 32) hx hb dX5_wears_27 (by decide) (fun hc => ?_) (fun hc => ?_)
      · have h := h.1 hc
        refine lv_aload_n hx hb dX5_wears_32 rfl (lv_at hl 0 rfl) ?_
        refine gX_trial C hPx (C.2.2.2.2.2.2.1 _ wq_337) dX5_wears_33 ?_
        refine lv_aload_n hx hb dX5_wears_36 rfl (lv_at hl 0 rfl) ?_
        refine gX_store C hPx (C.2.2.2.2.2.2.1 _ wq_336) dX5_wears_37 ?_
        refine kZv (rnVN C (ct_X4_copyFrom l D cy Aa Ab (apX.ss hap) h) yv_X4_copyFrom wn_767 ⟨rfl, rfl⟩ ⟨Nat.le_of_ble_eq_true rfl, Nat.le_of_ble_eq_true rfl⟩ ⟨Nat.zero_le _, Nat.zero_le _⟩ (vS_store C hPb) ⟨hPa, hPb⟩ hl.1 rfl rfl (Nat.le_of_ble_eq_true rfl) dX5_wears_40) hS (fun _ h => Or.symm h) (fun σb40 μb40 H locs h hPb hPa hk hS => ?_)
        have hPx := keepW (rX (x0 := x0) (Aa := Aa) (Ab := Ab)) (fun _ _ h => h.elim hap.2.2.2.2.2 hap.2.2.2.2.1) hPx hk
        refine lv_aload_n hx hb dX5_wears_43 rfl (lv_at hl 0 rfl) ?_
        refine gX_trial C hPx (C.2.2.2.2.2.2.1 _ wq_337) dX5_wears_44 ?_
        refine lv_iload_n hx hb dX5_wears_47 rfl (lv_at hl 1 rfl) ?_
        refine kWv (rnVN C (ct_X4_wearOut l D cy Ab hap.2.1 h) yv_X4_wearOut wn_799 ⟨rfl, rfl⟩ ⟨Nat.le_of_ble_eq_true rfl, Nat.le_of_ble_eq_true rfl⟩ ⟨Nat.zero_le _, Nat.zero_le _⟩ (vS_store C hPb) hPb hl.1 rfl rfl (Nat.le_of_ble_eq_true rfl) dX5_wears_48) hS (fun _ h => Or.inr h) (fun σb48 μb48 H locs h hPb hk hS => ?_)
        have hPa := keepW rS hap.2.2.2.1 hPa hk
        have hPx := keepW (rX (x0 := x0) (Aa := Aa) (Ab := Ab)) (fun _ _ => hap.2.2.2.2.2) hPx hk
        refine lv_iload_n hx hb dX5_wears_51 rfl (lv_at hl 2 rfl) ?_
        refine lv_iconst (v := 2) hx hb dX5_wears_52 (by decide) ?_
        refine lv_icmp_ne (tgt := 64) hx hb dX5_wears_53 (by decide) (fun hc => ?_) (fun hc => ?_)
        · have h := h.1 hc
          refine lv_iload_n hx hb dX5_wears_64 rfl (lv_at hl 2 rfl) ?_
          refine lv_if_ne (tgt := 81) hx hb dX5_wears_65 (by decide) (fun hc => ?_) (fun hc => ?_)
          · have h := h.1 hc
            refine lv_aload_n hx hb dX5_wears_81 rfl (lv_at hl 0 rfl) ?_
            refine gX_trial C hPx (C.2.2.2.2.2.2.1 _ wq_337) dX5_wears_82 ?_
            refine gnS_store_chip C hPb (NW.use C.2.2.2.2.2.2.2.2 wn_310) dX5_wears_85 ?_
            refine kWi (rnVN C (ct_X1_fewestErases l D cy Ab hap.2.1 h) yv_X1_fewestErases wn_811 ⟨rfl, rfl⟩ ⟨Nat.le_of_ble_eq_true rfl, Nat.le_of_ble_eq_true rfl⟩ ⟨Nat.zero_le _, Nat.zero_le _⟩ (vS_chip C hPb) hPb hl.1 rfl rfl (Nat.le_of_ble_eq_true rfl) dX5_wears_88) hS (fun _ h => Or.inr h) (fun r88 σb88 μb88 H locs h hPb hk hS => ?_)
            have hPa := keepW rS hap.2.2.2.1 hPa hk
            have hPx := keepW (rX (x0 := x0) (Aa := Aa) (Ab := Ab)) (fun _ _ => hap.2.2.2.2.2) hPx hk
            exact wk_X5_wears_91 C hap h hPa hPb hPx hS (lv_sub hl [] rfl)
          · have h := h.2 hc
            refine lv_aload_n hx hb dX5_wears_68 rfl (lv_at hl 0 rfl) ?_
            refine gX_trial C hPx (C.2.2.2.2.2.2.1 _ wq_337) dX5_wears_69 ?_
            refine gnS_store_chip C hPb (NW.use C.2.2.2.2.2.2.2.2 wn_310) dX5_wears_72 ?_
            refine kWi (rnVN C (ct_X1_mostErases l D cy Ab hap.2.1 h) yv_X1_mostErases wn_804 ⟨rfl, rfl⟩ ⟨Nat.le_of_ble_eq_true rfl, Nat.le_of_ble_eq_true rfl⟩ ⟨Nat.zero_le _, Nat.zero_le _⟩ (vS_chip C hPb) hPb hl.1 rfl rfl (Nat.le_of_ble_eq_true rfl) dX5_wears_75) hS (fun _ h => Or.inr h) (fun r75 σb75 μb75 H locs h hPb hk hS => ?_)
            have hPa := keepW rS hap.2.2.2.1 hPa hk
            have hPx := keepW (rX (x0 := x0) (Aa := Aa) (Ab := Ab)) (fun _ _ => hap.2.2.2.2.2) hPx hk
            refine lv_goto (tgt := 91) hx hb dX5_wears_78 (by decide) ?_
            exact wk_X5_wears_91 C hap h hPa hPb hPx hS (lv_sub hl [] rfl)
        · have h := h.2 hc
          refine lv_aload_n hx hb dX5_wears_56 rfl (lv_at hl 0 rfl) ?_
          refine gX_trial C hPx (C.2.2.2.2.2.2.1 _ wq_337) dX5_wears_57 ?_
          refine gnS_store_inUse C hPb (NW.use C.2.2.2.2.2.2.2.2 wn_317) dX5_wears_60 ?_
          exact endI C hS ⟨_, _, _, _, _, rfl, h, hPa, hPb, hPx⟩ dX5_wears_63
      · have h := h.2 hc
        exact wk_X5_wears_30 C hap h hPa hPb hPx hS (lv_sub hl [] rfl)
abbrev rmX5_wear : Room := { frames := 4, cells := 0, slots := 0, locals := 85 }
def wp_X5_wear (σa : Rg) (μa : Ar) (σb : Rg) (μb : Ar) (x1 : Int32) (Q : Int32 → Rg → Ar → Rg → Ar → Prop) : Prop := (((x1).toInt < 0 ∨ 4 < (x1).toInt → Q (-1 : Int32) σa μa σb μb) ∧ (x1 = 0 → wp_X1_mostErases σa μa  (fun r45 σa45 μa45 => Q r45 σa45 μa45 σb μb)) ∧ (x1 = 1 → wp_X1_fewestErases σa μa  (fun r50 σa50 μa50 => Q r50 σa50 μa50 σb μb)) ∧ (x1 = 2 → wp_X1_allErases σa μa  (fun r55 σa55 μa55 => Q r55 σa55 μa55 σb μb)) ∧ (x1 = 3 → Q (σa 5) σa μa σb μb) ∧ (x1 = 4 → wp_X5_unevenness σa μa  (fun r65 σa65 μa65 => Q r65 σa65 μa65 σb μb)))
set_option maxHeartbeats 4000000 in
set_option maxRecDepth 100000 in
theorem ct_X5_wear (l : Launch) (D : va_G) (cy : ClassId) (x0 : Nat) (Aa Ab : Nat → Nat) (hap : apX x0 Aa Ab) {σa : Rg} {μa : Ar} {σb : Rg} {μb : Ar} {x1 : Int32} {Q : Int32 → Rg → Ar → Rg → Ar → Prop} (h : wp_X5_wear σa μa σb μb x1 Q) : Ct l yX5_wear cX5_wear 3 (some FieldType.int) rmX5_wear D [(cy, .int)] (fun H => va_P D vwCl (wS Aa cy σa μa) H ∧ va_P D vwCl (wS Ab cy σb μb) H ∧ va_P D vwCl (wX x0 Aa Ab) H) [.ref x0, .int x1] (AX Aa Ab) (PXi x0 Aa Ab cy D Q) := by
  refine Ct.of (by decide) (Nat.le_of_ble_eq_true rfl) ?_
  intro p e s m below meth c ls C hP hl
  obtain ⟨hPa, hPb, hPx⟩ := hP
  have hl : lv_has ls 3 [(0, .ref x0), (1, .int x1)] := hl
  have hS : va_S (AX Aa Ab) s.heap s.heap [] := va_S.rf
  have hx := C.1
  have hb := C.2.1
  refine lv_aload_n hx hb dX5_wear_0 rfl (lv_at hl 0 rfl) ?_
  refine gX_store C hPx (C.2.2.2.2.2.2.1 _ wq_336) dX5_wear_1 ?_
  refine gnS_store_chip C hPa (NW.use C.2.2.2.2.2.2.2.2 wn_310) dX5_wear_4 ?_
  refine lv_astore_n (lv' := [(2, .ref (Aa 1)), (0, .ref x0), (1, .int x1)]) hx hb dX5_wear_7 rfl hl (by decide) rfl (fun ls hl => ?_)
  refine lv_iload_n hx hb dX5_wear_8 rfl (lv_at hl 2 rfl) ?_
  by_cases hc : (x1).toInt < 0 ∨ 4 < (x1).toInt
  · have h := h.1 hc
    refine lv_tableOut (tgt := 69) hx hb dX5_wear_9 hc (by decide) ?_
    refine lv_iconst (v := -1) hx hb dX5_wear_69 (by decide) ?_
    exact endI C hS ⟨_, _, _, _, _, rfl, h, hPa, hPb, hPx⟩ dX5_wear_70
  · have hr : (x1).toInt = 0 ∨ (x1).toInt = 1 ∨ (x1).toInt = 2 ∨ (x1).toInt = 3 ∨ (x1).toInt = 4 := by omega
    rcases hr with hr | hr | hr | hr | hr
    · have h := h.2.1 (Int32.toInt_inj.mp (by rw [hr]; rfl))
      refine lv_tableIn (off := 35) (tgt := 44) hx hb dX5_wear_9 (by omega) (by omega) (by rw [hr]; rfl) (by decide) ?_
      refine lv_aload_n hx hb dX5_wear_44 rfl (lv_at hl 0 rfl) ?_
      refine kWi (rnVN C (ct_X1_mostErases l D cy Aa hap.1 h) yv_X1_mostErases wn_804 ⟨rfl, rfl⟩ ⟨Nat.le_of_ble_eq_true rfl, Nat.le_of_ble_eq_true rfl⟩ ⟨Nat.zero_le _, Nat.zero_le _⟩ (vS_chip C hPa) hPa hl.1 rfl rfl (Nat.le_of_ble_eq_true rfl) dX5_wear_45) hS (fun _ h => Or.inl h) (fun r45 σa45 μa45 H locs h hPa hk hS => ?_)
      have hPb := keepW rS hap.2.2.1 hPb hk
      have hPx := keepW (rX (x0 := x0) (Aa := Aa) (Ab := Ab)) (fun _ _ => hap.2.2.2.2.1) hPx hk
      exact endI C hS ⟨_, _, _, _, _, rfl, h, hPa, hPb, hPx⟩ dX5_wear_48
    · have h := h.2.2.1 (Int32.toInt_inj.mp (by rw [hr]; rfl))
      refine lv_tableIn (off := 40) (tgt := 49) hx hb dX5_wear_9 (by omega) (by omega) (by rw [hr]; rfl) (by decide) ?_
      refine lv_aload_n hx hb dX5_wear_49 rfl (lv_at hl 0 rfl) ?_
      refine kWi (rnVN C (ct_X1_fewestErases l D cy Aa hap.1 h) yv_X1_fewestErases wn_811 ⟨rfl, rfl⟩ ⟨Nat.le_of_ble_eq_true rfl, Nat.le_of_ble_eq_true rfl⟩ ⟨Nat.zero_le _, Nat.zero_le _⟩ (vS_chip C hPa) hPa hl.1 rfl rfl (Nat.le_of_ble_eq_true rfl) dX5_wear_50) hS (fun _ h => Or.inl h) (fun r50 σa50 μa50 H locs h hPa hk hS => ?_)
      have hPb := keepW rS hap.2.2.1 hPb hk
      have hPx := keepW (rX (x0 := x0) (Aa := Aa) (Ab := Ab)) (fun _ _ => hap.2.2.2.2.1) hPx hk
      exact endI C hS ⟨_, _, _, _, _, rfl, h, hPa, hPb, hPx⟩ dX5_wear_53
    · have h := h.2.2.2.1 (Int32.toInt_inj.mp (by rw [hr]; rfl))
      refine lv_tableIn (off := 45) (tgt := 54) hx hb dX5_wear_9 (by omega) (by omega) (by rw [hr]; rfl) (by decide) ?_
      refine lv_aload_n hx hb dX5_wear_54 rfl (lv_at hl 0 rfl) ?_
      refine kWi (rnVN C (ct_X1_allErases l D cy Aa hap.1 h) yv_X1_allErases wn_820 ⟨rfl, rfl⟩ ⟨Nat.le_of_ble_eq_true rfl, Nat.le_of_ble_eq_true rfl⟩ ⟨Nat.zero_le _, Nat.zero_le _⟩ (vS_chip C hPa) hPa hl.1 rfl rfl (Nat.le_of_ble_eq_true rfl) dX5_wear_55) hS (fun _ h => Or.inl h) (fun r55 σa55 μa55 H locs h hPa hk hS => ?_)
      have hPb := keepW rS hap.2.2.1 hPb hk
      have hPx := keepW (rX (x0 := x0) (Aa := Aa) (Ab := Ab)) (fun _ _ => hap.2.2.2.2.1) hPx hk
      exact endI C hS ⟨_, _, _, _, _, rfl, h, hPa, hPb, hPx⟩ dX5_wear_58
    · have h := h.2.2.2.2.1 (Int32.toInt_inj.mp (by rw [hr]; rfl))
      refine lv_tableIn (off := 50) (tgt := 59) hx hb dX5_wear_9 (by omega) (by omega) (by rw [hr]; rfl) (by decide) ?_
      refine lv_aload_n hx hb dX5_wear_59 rfl (lv_at hl 0 rfl) ?_
      refine gnS_chip_writes C hPa (NW.use C.2.2.2.2.2.2.2.2 wn_177) dX5_wear_60 ?_
      exact endI C hS ⟨_, _, _, _, _, rfl, h, hPa, hPb, hPx⟩ dX5_wear_63
    · have h := h.2.2.2.2.2 (Int32.toInt_inj.mp (by rw [hr]; rfl))
      refine lv_tableIn (off := 55) (tgt := 64) hx hb dX5_wear_9 (by omega) (by omega) (by rw [hr]; rfl) (by decide) ?_
      refine lv_aload_n hx hb dX5_wear_64 rfl (lv_at hl 0 rfl) ?_
      refine kWi (rnS C (ct_X5_unevenness l D cy Aa hap.1 h) ys_X5_unevenness wq_824 ⟨rfl, rfl⟩ ⟨Nat.le_of_ble_eq_true rfl, Nat.le_of_ble_eq_true rfl⟩ ⟨Nat.zero_le _, Nat.zero_le _⟩ hPa hl.1 rfl rfl (Nat.le_of_ble_eq_true rfl) dX5_wear_65) hS (fun _ h => Or.inl h) (fun r65 σa65 μa65 H locs h hPa hk hS => ?_)
      have hPb := keepW rS hap.2.2.1 hPb hk
      have hPx := keepW (rX (x0 := x0) (Aa := Aa) (Ab := Ab)) (fun _ _ => hap.2.2.2.2.1) hPx hk
      exact endI C hS ⟨_, _, _, _, _, rfl, h, hPa, hPb, hPx⟩ dX5_wear_68
abbrev rmX5_tags : Room := { frames := 5, cells := 0, slots := 0, locals := 117 }
def wb_X5_tags_26 (Q : Int64 → Rg → Ar → Rg → Ar → Prop) (σa : Rg) (μa : Ar) (σb : Rg) (μb : Ar) (t0 : Int64) : Prop := Q t0 σa μa σb μb
set_option maxHeartbeats 4000000 in
set_option maxRecDepth 100000 in
theorem wk_X5_tags_26 {p : Program} {l : Launch} {e : Env} {s : State} {m : MethodId} {args : Array Value} {below : List Frame} {meth : Method} {c : Code} {D : va_G} {cy : ClassId} {x0 : Nat} {Aa Ab : Nat → Nat} (C : Cx p s m args meth c RX5 cX5_tags 1 (some FieldType.long) D [(cy, .int)]) (hap : apX x0 Aa Ab) {Q : Int64 → Rg → Ar → Rg → Ar → Prop} {σa : Rg} {μa : Ar} {σb : Rg} {μb : Ar} {t0 : Int64} {H : Heap} {locs : List Loc} {ls : Array Slot} (h : wb_X5_tags_26 Q σa μa σb μb t0) (hPa : va_P D vwCl (wS Aa cy σa μa) H) (hPb : va_P D vwCl (wS Ab cy σb μb) H) (hPx : va_P D vwCl (wX x0 Aa Ab) H) (hS : va_S (AX Aa Ab) s.heap H locs) (hl : lv_has ls 1 []) : W p l e rmX5_tags s m args below meth c H locs 0 0 (MQ below (Qcg (PXl x0 Aa Ab cy D Q) (AX Aa Ab)) args s 0 0 (AX Aa Ab)) (F0 m 26 ls [.long t0]) := by
  have hx := C.1
  have hb := C.2.1
  exact endL C hS ⟨_, _, _, _, _, rfl, h, hPa, hPb, hPx⟩ dX5_tags_26
def wp_X5_tags (σa : Rg) (μa : Ar) (σb : Rg) (μb : Ar) (Q : Int64 → Rg → Ar → Rg → Ar → Prop) : Prop := wp_X4_isOn σa μa  (fun r4 σa4 μa4 => ((r4 = 0 → wb_X5_tags_26 Q σa4 μa4 σb μb (-1 : Int64)) ∧ (¬ r4 = 0 → wp_X4_look σa4 μa4  (fun σa14 μa14 => wp_X3_valuedTags σa14 μa14  (fun r17 σa17 μa17 => wb_X5_tags_26 Q σa17 μa17 σb μb r17)))))
set_option maxHeartbeats 4000000 in
set_option maxRecDepth 100000 in
theorem ct_X5_tags (l : Launch) (D : va_G) (cy : ClassId) (x0 : Nat) (Aa Ab : Nat → Nat) (hap : apX x0 Aa Ab) {σa : Rg} {μa : Ar} {σb : Rg} {μb : Ar}  {Q : Int64 → Rg → Ar → Rg → Ar → Prop} (h : wp_X5_tags σa μa σb μb  Q) : Ct l yX5_tags cX5_tags 1 (some FieldType.long) rmX5_tags D [(cy, .int)] (fun H => va_P D vwCl (wS Aa cy σa μa) H ∧ va_P D vwCl (wS Ab cy σb μb) H ∧ va_P D vwCl (wX x0 Aa Ab) H) [.ref x0] (AX Aa Ab) (PXl x0 Aa Ab cy D Q) := by
  refine Ct.of (by decide) (Nat.le_of_ble_eq_true rfl) ?_
  intro p e s m below meth c ls C hP hl
  obtain ⟨hPa, hPb, hPx⟩ := hP
  have hl : lv_has ls 1 [(0, .ref x0)] := hl
  have hS : va_S (AX Aa Ab) s.heap s.heap [] := va_S.rf
  have hx := C.1
  have hb := C.2.1
  refine lv_aload_n hx hb dX5_tags_0 rfl (lv_at hl 0 rfl) ?_
  refine gX_store C hPx (C.2.2.2.2.2.2.1 _ wq_336) dX5_tags_1 ?_
  refine kWi (rnVN C (ct_X4_isOn l D cy Aa hap.1 h) yv_X4_isOn wn_366 ⟨rfl, rfl⟩ ⟨Nat.le_of_ble_eq_true rfl, Nat.le_of_ble_eq_true rfl⟩ ⟨Nat.zero_le _, Nat.zero_le _⟩ (vS_store C hPa) hPa hl.1 rfl rfl (Nat.le_of_ble_eq_true rfl) dX5_tags_4) hS (fun _ h => Or.inl h) (fun r4 σa4 μa4 H locs h hPa hk hS => ?_)
  have hPb := keepW rS hap.2.2.1 hPb hk
  have hPx := keepW (rX (x0 := x0) (Aa := Aa) (Ab := Ab)) (fun _ _ => hap.2.2.2.2.1) hPx hk
  refine lv_if_eq (tgt := 23) hx hb dX5_tags_7 (by decide) (fun hc => ?_) (fun hc => ?_)
  · have h := h.1 hc
    refine lv_ldc2 hx hb C.2.2.2.1 (C.2.2.2.2.2.2.1 _ wq_694) dX5_tags_23 ?_
    exact wk_X5_tags_26 C hap h hPa hPb hPx hS (lv_sub hl [] rfl)
  · have h := h.2 hc
    refine lv_aload_n hx hb dX5_tags_10 rfl (lv_at hl 0 rfl) ?_
    refine gX_store C hPx (C.2.2.2.2.2.2.1 _ wq_336) dX5_tags_11 ?_
    refine kWr (rnVN C (ct_X4_look l D cy Aa hap.1 h) yv_X4_look wn_695 ⟨rfl, rfl⟩ ⟨Nat.le_of_ble_eq_true rfl, Nat.le_of_ble_eq_true rfl⟩ ⟨Nat.zero_le _, Nat.zero_le _⟩ (vS_store C hPa) hPa hl.1 rfl rfl (Nat.le_of_ble_eq_true rfl) dX5_tags_14) hS (fun _ h => Or.inl h) (fun σa14 μa14 H locs h hPa hk hS => ?_)
    have hPb := keepW rS hap.2.2.1 hPb hk
    have hPx := keepW (rX (x0 := x0) (Aa := Aa) (Ab := Ab)) (fun _ _ => hap.2.2.2.2.1) hPx hk
    refine kWl (rnVN C (ct_X3_valuedTags l D cy Aa hap.1 h) yv_X3_valuedTags wn_835 ⟨rfl, rfl⟩ ⟨Nat.le_of_ble_eq_true rfl, Nat.le_of_ble_eq_true rfl⟩ ⟨Nat.zero_le _, Nat.zero_le _⟩ (vS_reading C hPa) hPa hl.1 rfl rfl (Nat.le_of_ble_eq_true rfl) dX5_tags_17) hS (fun _ h => Or.inl h) (fun r17 σa17 μa17 H locs h hPa hk hS => ?_)
    have hPb := keepW rS hap.2.2.1 hPb hk
    have hPx := keepW (rX (x0 := x0) (Aa := Aa) (Ab := Ab)) (fun _ _ => hap.2.2.2.2.1) hPx hk
    refine lv_goto (tgt := 26) hx hb dX5_tags_20 (by decide) ?_
    exact wk_X5_tags_26 C hap h hPa hPb hPx hS (lv_sub hl [] rfl)
abbrev rmX5_count : Room := { frames := 1, cells := 0, slots := 0, locals := 20 }
def wb_X5_count_85 (Q : Int32 → Rg → Ar → Rg → Ar → Prop) (σa : Rg) (μa : Ar) (σb : Rg) (μb : Ar) (t0 : Int32) : Prop := Q t0 σa μa σb μb
set_option maxHeartbeats 4000000 in
set_option maxRecDepth 100000 in
theorem wk_X5_count_85 {p : Program} {l : Launch} {e : Env} {s : State} {m : MethodId} {args : Array Value} {below : List Frame} {meth : Method} {c : Code} {D : va_G} {cy : ClassId} {x0 : Nat} {Aa Ab : Nat → Nat} (C : Cx p s m args meth c RX5 cX5_count 2 (some FieldType.int) D [(cy, .int)]) (hap : apX x0 Aa Ab) {Q : Int32 → Rg → Ar → Rg → Ar → Prop} {σa : Rg} {μa : Ar} {σb : Rg} {μb : Ar} {t0 : Int32} {H : Heap} {locs : List Loc} {ls : Array Slot} (h : wb_X5_count_85 Q σa μa σb μb t0) (hPa : va_P D vwCl (wS Aa cy σa μa) H) (hPb : va_P D vwCl (wS Ab cy σb μb) H) (hPx : va_P D vwCl (wX x0 Aa Ab) H) (hS : va_S (AX Aa Ab) s.heap H locs) (hl : lv_has ls 2 []) : W p l e rmX5_count s m args below meth c H locs 0 0 (MQ below (Qcg (PXi x0 Aa Ab cy D Q) (AX Aa Ab)) args s 0 0 (AX Aa Ab)) (F0 m 85 ls [.int t0]) := by
  have hx := C.1
  have hb := C.2.1
  exact endI C hS ⟨_, _, _, _, _, rfl, h, hPa, hPb, hPx⟩ dX5_count_85
def wb_X5_count_121 (Q : Int32 → Rg → Ar → Rg → Ar → Prop) (σa : Rg) (μa : Ar) (σb : Rg) (μb : Ar) (t0 : Int32) : Prop := Q t0 σa μa σb μb
set_option maxHeartbeats 4000000 in
set_option maxRecDepth 100000 in
theorem wk_X5_count_121 {p : Program} {l : Launch} {e : Env} {s : State} {m : MethodId} {args : Array Value} {below : List Frame} {meth : Method} {c : Code} {D : va_G} {cy : ClassId} {x0 : Nat} {Aa Ab : Nat → Nat} (C : Cx p s m args meth c RX5 cX5_count 2 (some FieldType.int) D [(cy, .int)]) (hap : apX x0 Aa Ab) {Q : Int32 → Rg → Ar → Rg → Ar → Prop} {σa : Rg} {μa : Ar} {σb : Rg} {μb : Ar} {t0 : Int32} {H : Heap} {locs : List Loc} {ls : Array Slot} (h : wb_X5_count_121 Q σa μa σb μb t0) (hPa : va_P D vwCl (wS Aa cy σa μa) H) (hPb : va_P D vwCl (wS Ab cy σb μb) H) (hPx : va_P D vwCl (wX x0 Aa Ab) H) (hS : va_S (AX Aa Ab) s.heap H locs) (hl : lv_has ls 2 []) : W p l e rmX5_count s m args below meth c H locs 0 0 (MQ below (Qcg (PXi x0 Aa Ab cy D Q) (AX Aa Ab)) args s 0 0 (AX Aa Ab)) (F0 m 121 ls [.int t0]) := by
  have hx := C.1
  have hb := C.2.1
  exact endI C hS ⟨_, _, _, _, _, rfl, h, hPa, hPb, hPx⟩ dX5_count_121
def wp_X5_count (σa : Rg) (μa : Ar) (σb : Rg) (μb : Ar) (x1 : Int32) (Q : Int32 → Rg → Ar → Rg → Ar → Prop) : Prop := (((x1).toInt < 0 ∨ 7 < (x1).toInt → Q (-1 : Int32) σa μa σb μb) ∧ (x1 = 0 → Q (σa 3) σa μa σb μb) ∧ (x1 = 1 → Q (σa 4) σa μa σb μb) ∧ (x1 = 2 → wp_X4_isOn σa μa  (fun r74 σa74 μa74 => ((r74 = 0 → wb_X5_count_85 Q σa74 μa74 σb μb (0 : Int32)) ∧ (¬ r74 = 0 → wb_X5_count_85 Q σa74 μa74 σb μb (1 : Int32))))) ∧ (x1 = 3 → Q (σa 0) σa μa σb μb) ∧ (x1 = 4 → (((σa 15) = 0 → wb_X5_count_121 Q σa μa σb μb (-1 : Int32)) ∧ (¬ (σa 15) = 0 → wb_X5_count_121 Q σa μa σb μb (σa 16)))) ∧ (x1 = 5 → Q (σa 8) σa μa σb μb) ∧ (x1 = 6 → Q (σa 10) σa μa σb μb) ∧ (x1 = 7 → Q (σa 1) σa μa σb μb))
set_option maxHeartbeats 4000000 in
set_option maxRecDepth 100000 in
theorem ct_X5_count (l : Launch) (D : va_G) (cy : ClassId) (x0 : Nat) (Aa Ab : Nat → Nat) (hap : apX x0 Aa Ab) {σa : Rg} {μa : Ar} {σb : Rg} {μb : Ar} {x1 : Int32} {Q : Int32 → Rg → Ar → Rg → Ar → Prop} (h : wp_X5_count σa μa σb μb x1 Q) : Ct l yX5_count cX5_count 2 (some FieldType.int) rmX5_count D [(cy, .int)] (fun H => va_P D vwCl (wS Aa cy σa μa) H ∧ va_P D vwCl (wS Ab cy σb μb) H ∧ va_P D vwCl (wX x0 Aa Ab) H) [.ref x0, .int x1] (AX Aa Ab) (PXi x0 Aa Ab cy D Q) := by
  refine Ct.of (by decide) (Nat.le_of_ble_eq_true rfl) ?_
  intro p e s m below meth c ls C hP hl
  obtain ⟨hPa, hPb, hPx⟩ := hP
  have hl : lv_has ls 2 [(0, .ref x0), (1, .int x1)] := hl
  have hS : va_S (AX Aa Ab) s.heap s.heap [] := va_S.rf
  have hx := C.1
  have hb := C.2.1
  refine lv_iload_n hx hb dX5_count_0 rfl (lv_at hl 1 rfl) ?_
  by_cases hc : (x1).toInt < 0 ∨ 7 < (x1).toInt
  · have h := h.1 hc
    refine lv_tableOut (tgt := 152) hx hb dX5_count_1 hc (by decide) ?_
    refine lv_iconst (v := -1) hx hb dX5_count_152 (by decide) ?_
    exact endI C hS ⟨_, _, _, _, _, rfl, h, hPa, hPb, hPx⟩ dX5_count_153
  · have hr : (x1).toInt = 0 ∨ (x1).toInt = 1 ∨ (x1).toInt = 2 ∨ (x1).toInt = 3 ∨ (x1).toInt = 4 ∨ (x1).toInt = 5 ∨ (x1).toInt = 6 ∨ (x1).toInt = 7 := by omega
    rcases hr with hr | hr | hr | hr | hr | hr | hr | hr
    · have h := h.2.1 (Int32.toInt_inj.mp (by rw [hr]; rfl))
      refine lv_tableIn (off := 47) (tgt := 48) hx hb dX5_count_1 (by omega) (by omega) (by rw [hr]; rfl) (by decide) ?_
      refine lv_aload_n hx hb dX5_count_48 rfl (lv_at hl 0 rfl) ?_
      refine gX_store C hPx (C.2.2.2.2.2.2.1 _ wq_336) dX5_count_49 ?_
      refine gnS_store_chip C hPa (NW.use C.2.2.2.2.2.2.2.2 wn_310) dX5_count_52 ?_
      refine gnS_chip_sectors C hPa (NW.use C.2.2.2.2.2.2.2.2 wn_172) dX5_count_55 ?_
      exact endI C hS ⟨_, _, _, _, _, rfl, h, hPa, hPb, hPx⟩ dX5_count_58
    · have h := h.2.2.1 (Int32.toInt_inj.mp (by rw [hr]; rfl))
      refine lv_tableIn (off := 58) (tgt := 59) hx hb dX5_count_1 (by omega) (by omega) (by rw [hr]; rfl) (by decide) ?_
      refine lv_aload_n hx hb dX5_count_59 rfl (lv_at hl 0 rfl) ?_
      refine gX_store C hPx (C.2.2.2.2.2.2.1 _ wq_336) dX5_count_60 ?_
      refine gnS_store_chip C hPa (NW.use C.2.2.2.2.2.2.2.2 wn_310) dX5_count_63 ?_
      refine gnS_chip_size C hPa (NW.use C.2.2.2.2.2.2.2.2 wn_175) dX5_count_66 ?_
      exact endI C hS ⟨_, _, _, _, _, rfl, h, hPa, hPb, hPx⟩ dX5_count_69
    · have h := h.2.2.2.1 (Int32.toInt_inj.mp (by rw [hr]; rfl))
      refine lv_tableIn (off := 69) (tgt := 70) hx hb dX5_count_1 (by omega) (by omega) (by rw [hr]; rfl) (by decide) ?_
      refine lv_aload_n hx hb dX5_count_70 rfl (lv_at hl 0 rfl) ?_
      refine gX_store C hPx (C.2.2.2.2.2.2.1 _ wq_336) dX5_count_71 ?_
      refine kWi (rnVN C (ct_X4_isOn l D cy Aa hap.1 h) yv_X4_isOn wn_366 ⟨rfl, rfl⟩ ⟨Nat.le_of_ble_eq_true rfl, Nat.le_of_ble_eq_true rfl⟩ ⟨Nat.zero_le _, Nat.zero_le _⟩ (vS_store C hPa) hPa hl.1 rfl rfl (Nat.le_of_ble_eq_true rfl) dX5_count_74) hS (fun _ h => Or.inl h) (fun r74 σa74 μa74 H locs h hPa hk hS => ?_)
      have hPb := keepW rS hap.2.2.1 hPb hk
      have hPx := keepW (rX (x0 := x0) (Aa := Aa) (Ab := Ab)) (fun _ _ => hap.2.2.2.2.1) hPx hk
      refine lv_if_eq (tgt := 84) hx hb dX5_count_77 (by decide) (fun hc => ?_) (fun hc => ?_)
      · have h := h.1 hc
        refine lv_iconst (v := 0) hx hb dX5_count_84 (by decide) ?_
        exact wk_X5_count_85 C hap h hPa hPb hPx hS (lv_sub hl [] rfl)
      · have h := h.2 hc
        refine lv_iconst (v := 1) hx hb dX5_count_80 (by decide) ?_
        refine lv_goto (tgt := 85) hx hb dX5_count_81 (by decide) ?_
        exact wk_X5_count_85 C hap h hPa hPb hPx hS (lv_sub hl [] rfl)
    · have h := h.2.2.2.2.1 (Int32.toInt_inj.mp (by rw [hr]; rfl))
      refine lv_tableIn (off := 85) (tgt := 86) hx hb dX5_count_1 (by omega) (by omega) (by rw [hr]; rfl) (by decide) ?_
      refine lv_aload_n hx hb dX5_count_86 rfl (lv_at hl 0 rfl) ?_
      refine gX_store C hPx (C.2.2.2.2.2.2.1 _ wq_336) dX5_count_87 ?_
      refine gnS_store_inUse C hPa (NW.use C.2.2.2.2.2.2.2.2 wn_317) dX5_count_90 ?_
      exact endI C hS ⟨_, _, _, _, _, rfl, h, hPa, hPb, hPx⟩ dX5_count_93
    · have h := h.2.2.2.2.2.1 (Int32.toInt_inj.mp (by rw [hr]; rfl))
      refine lv_tableIn (off := 93) (tgt := 94) hx hb dX5_count_1 (by omega) (by omega) (by rw [hr]; rfl) (by decide) ?_
      refine lv_aload_n hx hb dX5_count_94 rfl (lv_at hl 0 rfl) ?_
      refine gX_store C hPx (C.2.2.2.2.2.2.1 _ wq_336) dX5_count_95 ?_
      refine gnS_store_change C hPa (NW.use C.2.2.2.2.2.2.2.2 wn_314) dX5_count_98 ?_
      refine gnS_change_begun C hPa (NW.use C.2.2.2.2.2.2.2.2 wn_267) dX5_count_101 ?_
      refine lv_if_eq (tgt := 120) hx hb dX5_count_104 (by decide) (fun hc => ?_) (fun hc => ?_)
      · have h := h.1 hc
        refine lv_iconst (v := -1) hx hb dX5_count_120 (by decide) ?_
        exact wk_X5_count_121 C hap h hPa hPb hPx hS (lv_sub hl [] rfl)
      · have h := h.2 hc
        refine lv_aload_n hx hb dX5_count_107 rfl (lv_at hl 0 rfl) ?_
        refine gX_store C hPx (C.2.2.2.2.2.2.1 _ wq_336) dX5_count_108 ?_
        refine gnS_store_change C hPa (NW.use C.2.2.2.2.2.2.2.2 wn_314) dX5_count_111 ?_
        refine gnS_change_told C hPa (NW.use C.2.2.2.2.2.2.2.2 wn_270) dX5_count_114 ?_
        refine lv_goto (tgt := 121) hx hb dX5_count_117 (by decide) ?_
        exact wk_X5_count_121 C hap h hPa hPb hPx hS (lv_sub hl [] rfl)
    · have h := h.2.2.2.2.2.2.1 (Int32.toInt_inj.mp (by rw [hr]; rfl))
      refine lv_tableIn (off := 121) (tgt := 122) hx hb dX5_count_1 (by omega) (by omega) (by rw [hr]; rfl) (by decide) ?_
      refine lv_aload_n hx hb dX5_count_122 rfl (lv_at hl 0 rfl) ?_
      refine gX_store C hPx (C.2.2.2.2.2.2.1 _ wq_336) dX5_count_123 ?_
      refine gnS_store_chip C hPa (NW.use C.2.2.2.2.2.2.2.2 wn_310) dX5_count_126 ?_
      refine gnS_chip_powerIn C hPa (NW.use C.2.2.2.2.2.2.2.2 wn_184) dX5_count_129 ?_
      exact endI C hS ⟨_, _, _, _, _, rfl, h, hPa, hPb, hPx⟩ dX5_count_132
    · have h := h.2.2.2.2.2.2.2.1 (Int32.toInt_inj.mp (by rw [hr]; rfl))
      refine lv_tableIn (off := 132) (tgt := 133) hx hb dX5_count_1 (by omega) (by omega) (by rw [hr]; rfl) (by decide) ?_
      refine lv_aload_n hx hb dX5_count_133 rfl (lv_at hl 0 rfl) ?_
      refine gX_store C hPx (C.2.2.2.2.2.2.1 _ wq_336) dX5_count_134 ?_
      refine gnS_store_chip C hPa (NW.use C.2.2.2.2.2.2.2.2 wn_310) dX5_count_137 ?_
      refine gnS_chip_outages C hPa (NW.use C.2.2.2.2.2.2.2.2 wn_187) dX5_count_140 ?_
      exact endI C hS ⟨_, _, _, _, _, rfl, h, hPa, hPb, hPx⟩ dX5_count_143
    · have h := h.2.2.2.2.2.2.2.2 (Int32.toInt_inj.mp (by rw [hr]; rfl))
      refine lv_tableIn (off := 143) (tgt := 144) hx hb dX5_count_1 (by omega) (by omega) (by rw [hr]; rfl) (by decide) ?_
      refine lv_aload_n hx hb dX5_count_144 rfl (lv_at hl 0 rfl) ?_
      refine gX_store C hPx (C.2.2.2.2.2.2.1 _ wq_336) dX5_count_145 ?_
      refine gnS_store_handovers C hPa (NW.use C.2.2.2.2.2.2.2.2 wn_319) dX5_count_148 ?_
      exact endI C hS ⟨_, _, _, _, _, rfl, h, hPa, hPb, hPx⟩ dX5_count_151
