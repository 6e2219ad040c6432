abbrev rmX4_switchOff : Room := { frames := 1, cells := 0, slots := 0, locals := 20 }
def wp_X4_switchOff (σ : Rg) (μ : Ar) (Q : Rg → Ar → Prop) : Prop := ∀ σ2 : Rg, σ2 = upd σ 0 (-1 : Int32) → (∀ σ10 : Rg, σ10 = upd σ2 7 (0 : Int32) → (wp_X0_forget σ10 μ  (fun σ17 μ17 => Q σ17 μ17)))
set_option maxHeartbeats 4000000 in
set_option maxRecDepth 100000 in
theorem ct_X4_switchOff (l : Launch) (D : va_G) (cy : ClassId) (Ad : Nat → Nat) (hap : apt 18 Ad) {σ : Rg} {μ : Ar}  {Q : Rg → Ar → Prop} (h : wp_X4_switchOff σ μ  Q) : Ct l yX4_switchOff cX4_switchOff 1 (none : Option FieldType) rmX4_switchOff D [(cy, .int)] (fun H => va_P D vwCl (wS Ad cy σ μ) H) [.ref (Ad 0)] (AS 18 Ad) (PWv (wS Ad cy) D Q) := by
  refine Ct.of (by decide) (Nat.le_of_ble_eq_true rfl) ?_
  intro p e s m below meth c ls C hP hl
  have hl : lv_has ls 1 [(0, .ref (Ad 0))] := hl
  have hS : va_S (AS 18 Ad) s.heap s.heap [] := va_S.rf
  have hx := C.1
  have hb := C.2.1
  refine lv_aload_n hx hb dX4_switchOff_0 rfl (lv_at hl 0 rfl) ?_
  refine lv_iconst (v := -1) hx hb dX4_switchOff_1 (by decide) ?_
  refine pS_store_inUse C hap (fun _ h => h) hP hS (C.2.2.2.2.2.2.1 _ wq_316) dX4_switchOff_2 (fun H locs hP hS => ?_)
  obtain ⟨σ2, e2⟩ : ∃ z : Rg, z = upd σ 0 (-1 : Int32) := ⟨_, rfl⟩
  have hP : va_P D vwCl (wS Ad cy σ2 μ) H := by rw [e2]; exact hP
  have h := h σ2 e2
  refine lv_aload_n hx hb dX4_switchOff_5 rfl (lv_at hl 0 rfl) ?_
  refine gS_store_chip C hP (C.2.2.2.2.2.2.1 _ wq_309) dX4_switchOff_6 ?_
  refine lv_iconst (v := 0) hx hb dX4_switchOff_9 (by decide) ?_
  refine pnS_chip_powered C hap (fun _ h => h) hP hS bz0 (NW.use C.2.2.2.2.2.2.2.2 wn_182) dX4_switchOff_10 (fun H locs hP hS => ?_)
  obtain ⟨σ10, e10⟩ : ∃ z : Rg, z = upd σ2 7 (0 : Int32) := ⟨_, rfl⟩
  have hP : va_P D vwCl (wS Ad cy σ10 μ) H := by rw [e10]; exact hP
  have h := h σ10 e10
  refine lv_aload_n hx hb dX4_switchOff_13 rfl (lv_at hl 0 rfl) ?_
  refine gS_store_change C hP (C.2.2.2.2.2.2.1 _ wq_313) dX4_switchOff_14 ?_
  refine kWv (rnVN C (ct_X0_forget l D cy Ad hap h) yv_X0_forget wn_358 ⟨rfl, rfl⟩ ⟨Nat.le_of_ble_eq_true rfl, Nat.le_of_ble_eq_true rfl⟩ ⟨Nat.zero_le _, Nat.zero_le _⟩ (vS_change C hP) hP hl.1 rfl rfl (Nat.le_of_ble_eq_true rfl) dX4_switchOff_17) hS (fun _ h => h) (fun σ17 μ17 H locs h hP hk hS => ?_)
  exact endV C hS ⟨_, _, rfl, h, hP⟩ dX4_switchOff_20
abbrev rmX4_renew : Room := { frames := 2, cells := 0, slots := 0, locals := 45 }
def wp_X4_renew (σ : Rg) (μ : Ar) (x1 : Int32) (x2 : Int32) (Q : Rg → Ar → Prop) : Prop := wp_X1_renew σ μ x1 x2 (fun σ6 μ6 => ∀ σ11 : Rg, σ11 = upd σ6 1 (0 : Int32) → (wp_X4_switchOff σ11 μ6  (fun σ15 μ15 => Q σ15 μ15)))
set_option maxHeartbeats 4000000 in
set_option maxRecDepth 100000 in
theorem ct_X4_renew (l : Launch) (D : va_G) (cy : ClassId) (Ad : Nat → Nat) (hap : apt 18 Ad) {σ : Rg} {μ : Ar} {x1 : Int32} {x2 : Int32} {Q : Rg → Ar → Prop} (h : wp_X4_renew σ μ x1 x2 Q) : Ct l yX4_renew cX4_renew 3 (none : Option FieldType) rmX4_renew D [(cy, .int)] (fun H => va_P D vwCl (wS Ad cy σ μ) H) [.ref (Ad 0), .int x1, .int x2] (AS 18 Ad) (PWv (wS Ad cy) D Q) := by
  refine Ct.of (by decide) (Nat.le_of_ble_eq_true rfl) ?_
  intro p e s m below meth c ls C hP hl
  have hl : lv_has ls 3 [(0, .ref (Ad 0)), (1, .int x1), (2, .int x2)] := hl
  have hS : va_S (AS 18 Ad) s.heap s.heap [] := va_S.rf
  have hx := C.1
  have hb := C.2.1
  refine lv_aload_n hx hb dX4_renew_0 rfl (lv_at hl 0 rfl) ?_
  refine gS_store_chip C hP (C.2.2.2.2.2.2.1 _ wq_309) dX4_renew_1 ?_
  refine lv_iload_n hx hb dX4_renew_4 rfl (lv_at hl 1 rfl) ?_
  refine lv_iload_n hx hb dX4_renew_5 rfl (lv_at hl 2 rfl) ?_
  refine kWv (rnVN C (ct_X1_renew l D cy Ad hap h) yv_X1_renew wn_302 ⟨rfl, rfl⟩ ⟨Nat.le_of_ble_eq_true rfl, Nat.le_of_ble_eq_true rfl⟩ ⟨Nat.zero_le _, Nat.zero_le _⟩ (vS_chip C hP) hP hl.1 rfl rfl (Nat.le_of_ble_eq_true rfl) dX4_renew_6) hS (fun _ h => h) (fun σ6 μ6 H locs h hP hk hS => ?_)
  refine lv_aload_n hx hb dX4_renew_9 rfl (lv_at hl 0 rfl) ?_
  refine lv_iconst (v := 0) hx hb dX4_renew_10 (by decide) ?_
  refine pS_store_handovers C hap (fun _ h => h) hP hS (C.2.2.2.2.2.2.1 _ wq_318) dX4_renew_11 (fun H locs hP hS => ?_)
  obtain ⟨σ11, e11⟩ : ∃ z : Rg, z = upd σ6 1 (0 : Int32) := ⟨_, rfl⟩
  have hP : va_P D vwCl (wS Ad cy σ11 μ6) H := by rw [e11]; exact hP
  have h := h σ11 e11
  refine lv_aload_n hx hb dX4_renew_14 rfl (lv_at hl 0 rfl) ?_
  refine kWv (rnV C (ct_X4_switchOff l D cy Ad hap h) yv_X4_switchOff wq_354 ⟨rfl, rfl⟩ ⟨Nat.le_of_ble_eq_true rfl, Nat.le_of_ble_eq_true rfl⟩ ⟨Nat.zero_le _, Nat.zero_le _⟩ (vS_store C hP) hP hl.1 rfl rfl (Nat.le_of_ble_eq_true rfl) dX4_renew_15) hS (fun _ h => h) (fun σ15 μ15 H locs h hP hk hS => ?_)
  exact endV C hS ⟨_, _, rfl, h, hP⟩ dX4_renew_18
abbrev rmX4_copyFrom : Room := { frames := 2, cells := 0, slots := 0, locals := 61 }
def wp_X4_copyFrom (σa : Rg) (μa : Ar) (σb : Rg) (μb : Ar) (Q : Rg → Ar → Prop) : Prop := wp_X1_copyFrom σa μa σb μb  (fun σb8 μb8 => ∀ σb16 : Rg, σb16 = upd σb8 0 (σa 0) → (∀ σb24 : Rg, σb24 = upd σb16 1 (σa 1) → (wp_X0_forget σb24 μb8  (fun σb31 μb31 => Q σb31 μb31))))
set_option maxHeartbeats 4000000 in
set_option maxRecDepth 100000 in
theorem ct_X4_copyFrom (l : Launch) (D : va_G) (cy : ClassId) (Aa Ab : Nat → Nat) (hap : apSS Aa Ab) {σa : Rg} {μa : Ar} {σb : Rg} {μb : Ar}  {Q : Rg → Ar → Prop} (h : wp_X4_copyFrom σa μa σb μb  Q) : Ct l yX4_copyFrom cX4_copyFrom 2 (none : Option FieldType) rmX4_copyFrom D [(cy, .int)] (fun H => va_P D vwCl (wS Aa cy σa μa) H ∧ va_P D vwCl (wS Ab cy σb μb) H) [.ref (Ab 0), .ref (Aa 0)] (AZ Aa Ab) (PZv Aa Ab cy D σa μa Q) := by
  refine Ct.of (by decide) (Nat.le_of_ble_eq_true rfl) ?_
  intro p e s m below meth c ls C hP hl
  obtain ⟨hPa, hPb⟩ := hP
  have hl : lv_has ls 2 [(0, .ref (Ab 0)), (1, .ref (Aa 0))] := hl
  have hS : va_S (AZ Aa Ab) s.heap s.heap [] := va_S.rf
  have hx := C.1
  have hb := C.2.1
  refine lv_aload_n hx hb dX4_copyFrom_0 rfl (lv_at hl 0 rfl) ?_
  refine gS_store_chip C hPb (C.2.2.2.2.2.2.1 _ wq_309) dX4_copyFrom_1 ?_
  refine lv_aload_n hx hb dX4_copyFrom_4 rfl (lv_at hl 1 rfl) ?_
  refine gS_store_chip C hPa (C.2.2.2.2.2.2.1 _ wq_309) dX4_copyFrom_5 ?_
  refine kZv (rnVN C (ct_X1_copyFrom l D cy Aa Ab hap h) yv_X1_copyFrom wn_771 ⟨rfl, rfl⟩ ⟨Nat.le_of_ble_eq_true rfl, Nat.le_of_ble_eq_true rfl⟩ ⟨Nat.zero_le _, Nat.zero_le _⟩ (vS_chip C hPb) ⟨hPa, hPb⟩ hl.1 rfl rfl (Nat.le_of_ble_eq_true rfl) dX4_copyFrom_8) hS (fun _ h => h) (fun σb8 μb8 H locs h hPb hPa hk hS => ?_)
  refine lv_aload_n hx hb dX4_copyFrom_11 rfl (lv_at hl 0 rfl) ?_
  refine lv_aload_n hx hb dX4_copyFrom_12 rfl (lv_at hl 1 rfl) ?_
  refine gS_store_inUse C hPa (C.2.2.2.2.2.2.1 _ wq_316) dX4_copyFrom_13 ?_
  refine p2S_store_inUse C hap hPb hPa hS (C.2.2.2.2.2.2.1 _ wq_316) dX4_copyFrom_16 (fun H locs hPb hPa hS => ?_)
  obtain ⟨σb16, e16⟩ : ∃ z : Rg, z = upd σb8 0 (σa 0) := ⟨_, rfl⟩
  have hPb : va_P D vwCl (wS Ab cy σb16 μb8) H := by rw [e16]; exact hPb
  have h := h σb16 e16
  refine lv_aload_n hx hb dX4_copyFrom_19 rfl (lv_at hl 0 rfl) ?_
  refine lv_aload_n hx hb dX4_copyFrom_20 rfl (lv_at hl 1 rfl) ?_
  refine gS_store_handovers C hPa (C.2.2.2.2.2.2.1 _ wq_318) dX4_copyFrom_21 ?_
  refine p2S_store_handovers C hap hPb hPa hS (C.2.2.2.2.2.2.1 _ wq_318) dX4_copyFrom_24 (fun H locs hPb hPa hS => ?_)
  obtain ⟨σb24, e24⟩ : ∃ z : Rg, z = upd σb16 1 (σa 1) := ⟨_, rfl⟩
  have hPb : va_P D vwCl (wS Ab cy σb24 μb8) H := by rw [e24]; exact hPb
  have h := h σb24 e24
  refine lv_aload_n hx hb dX4_copyFrom_27 rfl (lv_at hl 0 rfl) ?_
  refine gS_store_change C hPb (C.2.2.2.2.2.2.1 _ wq_313) dX4_copyFrom_28 ?_
  refine kWv (rnVN C (ct_X0_forget l D cy Ab hap.2.1 h) yv_X0_forget wn_358 ⟨rfl, rfl⟩ ⟨Nat.le_of_ble_eq_true rfl, Nat.le_of_ble_eq_true rfl⟩ ⟨Nat.zero_le _, Nat.zero_le _⟩ (vS_change C hPb) hPb hl.1 rfl rfl (Nat.le_of_ble_eq_true rfl) dX4_copyFrom_31) hS (fun _ h => Or.inl h) (fun σb31 μb31 H locs h hPb hk hS => ?_)
  have hPa := keepW rS hap.2.2.2 hPa hk
  exact endV C hS ⟨_, _, rfl, h, hPb, hPa⟩ dX4_copyFrom_34
abbrev rmX4_isOn : Room := { frames := 0, cells := 0, slots := 0, locals := 0 }
def wb_X4_isOn_13 (Q : Int32 → Rg → Ar → Prop) (σ : Rg) (μ : Ar) (t0 : Int32) : Prop := (bz t0) ∧ (Q t0 σ μ)
set_option maxHeartbeats 4000000 in
set_option maxRecDepth 100000 in
theorem wk_X4_isOn_13 {p : Program} {l : Launch} {e : Env} {s : State} {m : MethodId} {args : Array Value} {below : List Frame} {meth : Method} {c : Code} {D : va_G} {cy : ClassId} {Ad : Nat → Nat} (C : Cx p s m args meth c RX4 cX4_isOn 1 (some FieldType.boolean) D [(cy, .int)]) (hap : apt 18 Ad) {Q : Int32 → Rg → Ar → Prop} {σ : Rg} {μ : Ar} {t0 : Int32} {H : Heap} {locs : List Loc} {ls : Array Slot} (h : wb_X4_isOn_13 Q σ μ t0) (hP : va_P D vwCl (wS Ad cy σ μ) H) (hS : va_S (AS 18 Ad) s.heap H locs) (hl : lv_has ls 1 []) : W p l e rmX4_isOn s m args below meth c H locs 0 0 (MQ below (Qcg (PWi (wS Ad cy) D Q) (AS 18 Ad)) args s 0 0 (AS 18 Ad)) (F0 m 13 ls [.int t0]) := by
  have hx := C.1
  have hb := C.2.1
  obtain ⟨hc, h⟩ := h
  exact endZ C hS hc ⟨_, _, _, rfl, h, hP⟩ dX4_isOn_13
def wp_X4_isOn (σ : Rg) (μ : Ar) (Q : Int32 → Rg → Ar → Prop) : Prop := (((σ 0) = (-1 : Int32) → wb_X4_isOn_13 Q σ μ (0 : Int32)) ∧ (¬ (σ 0) = (-1 : Int32) → wb_X4_isOn_13 Q σ μ (1 : Int32)))
set_option maxHeartbeats 4000000 in
set_option maxRecDepth 100000 in
theorem ct_X4_isOn (l : Launch) (D : va_G) (cy : ClassId) (Ad : Nat → Nat) (hap : apt 18 Ad) {σ : Rg} {μ : Ar}  {Q : Int32 → Rg → Ar → Prop} (h : wp_X4_isOn σ μ  Q) : Ct l yX4_isOn cX4_isOn 1 (some FieldType.boolean) rmX4_isOn D [(cy, .int)] (fun H => va_P D vwCl (wS Ad cy σ μ) H) [.ref (Ad 0)] (AS 18 Ad) (PWi (wS Ad cy) D Q) := by
  refine Ct.of (by decide) (Nat.le_of_ble_eq_true rfl) ?_
  intro p e s m below meth c ls C hP hl
  have hl : lv_has ls 1 [(0, .ref (Ad 0))] := hl
  have hS : va_S (AS 18 Ad) s.heap s.heap [] := va_S.rf
  have hx := C.1
  have hb := C.2.1
  refine lv_aload_n hx hb dX4_isOn_0 rfl (lv_at hl 0 rfl) ?_
  refine gS_store_inUse C hP (C.2.2.2.2.2.2.1 _ wq_316) dX4_isOn_1 ?_
  refine lv_iconst (v := -1) hx hb dX4_isOn_4 (by decide) ?_
  refine lv_icmp_eq (tgt := 12) hx hb dX4_isOn_5 (by decide) (fun hc => ?_) (fun hc => ?_)
  · have h := h.1 hc
    refine lv_iconst (v := 0) hx hb dX4_isOn_12 (by decide) ?_
    exact wk_X4_isOn_13 C hap h hP hS (lv_sub hl [] rfl)
  · have h := h.2 hc
    refine lv_iconst (v := 1) hx hb dX4_isOn_8 (by decide) ?_
    refine lv_goto (tgt := 13) hx hb dX4_isOn_9 (by decide) ?_
    exact wk_X4_isOn_13 C hap h hP hS (lv_sub hl [] rfl)
abbrev rmX4_look : Room := { frames := 4, cells := 0, slots := 0, locals := 97 }
def wp_X4_look (σ : Rg) (μ : Ar) (Q : Rg → Ar → Prop) : Prop := wp_X3_scan σ μ (σ 0) (fun σ12 μ12 => Q σ12 μ12)
set_option maxHeartbeats 4000000 in
set_option maxRecDepth 100000 in
theorem ct_X4_look (l : Launch) (D : va_G) (cy : ClassId) (Ad : Nat → Nat) (hap : apt 18 Ad) {σ : Rg} {μ : Ar}  {Q : Rg → Ar → Prop} (h : wp_X4_look σ μ  Q) : Ct l yX4_look cX4_look 1 (some (FieldType.object "SettingStore$Reading")) rmX4_look D [(cy, .int)] (fun H => va_P D vwCl (wS Ad cy σ μ) H) [.ref (Ad 0)] (AS 18 Ad) (PWr (wS Ad cy) (Ad 4) D Q) := by
  refine Ct.of (by decide) (Nat.le_of_ble_eq_true rfl) ?_
  intro p e s m below meth c ls C hP hl
  have hl : lv_has ls 1 [(0, .ref (Ad 0))] := hl
  have hS : va_S (AS 18 Ad) s.heap s.heap [] := va_S.rf
  have hx := C.1
  have hb := C.2.1
  refine lv_aload_n hx hb dX4_look_0 rfl (lv_at hl 0 rfl) ?_
  refine gS_store_reading C hP (C.2.2.2.2.2.2.1 _ wq_311) dX4_look_1 ?_
  refine lv_aload_n hx hb dX4_look_4 rfl (lv_at hl 0 rfl) ?_
  refine gS_store_chip C hP (C.2.2.2.2.2.2.1 _ wq_309) dX4_look_5 ?_
  refine lv_aload_n hx hb dX4_look_8 rfl (lv_at hl 0 rfl) ?_
  refine gS_store_inUse C hP (C.2.2.2.2.2.2.1 _ wq_316) dX4_look_9 ?_
  refine kWv (rnVN C (ct_X3_scan l D cy Ad hap h) yv_X3_scan wn_442 ⟨rfl, rfl⟩ ⟨Nat.le_of_ble_eq_true rfl, Nat.le_of_ble_eq_true rfl⟩ ⟨Nat.zero_le _, Nat.zero_le _⟩ (vS_reading C hP) hP hl.1 rfl rfl (Nat.le_of_ble_eq_true rfl) dX4_look_12) hS (fun _ h => h) (fun σ12 μ12 H locs h hP hk hS => ?_)
  refine lv_aload_n hx hb dX4_look_15 rfl (lv_at hl 0 rfl) ?_
  refine gS_store_reading C hP (C.2.2.2.2.2.2.1 _ wq_311) dX4_look_16 ?_
  exact endA C hS ⟨_, _, rfl, h, hP⟩ dX4_look_19
abbrev rmX4_outcome : Room := { frames := 2, cells := 0, slots := 0, locals := 40 }
def wp_X4_outcome (σ : Rg) (μ : Ar) (x1 : Int32) (Q : Int32 → Rg → Ar → Prop) : Prop := (((σ 7) = 0 → wp_X4_switchOff σ μ  (fun σ13 μ13 => Q (-3 : Int32) σ13 μ13)) ∧ (¬ (σ 7) = 0 → Q x1 σ μ))
set_option maxHeartbeats 4000000 in
set_option maxRecDepth 100000 in
theorem ct_X4_outcome (l : Launch) (D : va_G) (cy : ClassId) (Ad : Nat → Nat) (hap : apt 18 Ad) {σ : Rg} {μ : Ar} {x1 : Int32} {Q : Int32 → Rg → Ar → Prop} (h : wp_X4_outcome σ μ x1 Q) : Ct l yX4_outcome cX4_outcome 2 (some FieldType.int) rmX4_outcome D [(cy, .int)] (fun H => va_P D vwCl (wS Ad cy σ μ) H) [.ref (Ad 0), .int x1] (AS 18 Ad) (PWi (wS Ad cy) D Q) := by
  refine Ct.of (by decide) (Nat.le_of_ble_eq_true rfl) ?_
  intro p e s m below meth c ls C hP hl
  have hl : lv_has ls 2 [(0, .ref (Ad 0)), (1, .int x1)] := hl
  have hS : va_S (AS 18 Ad) s.heap s.heap [] := va_S.rf
  have hx := C.1
  have hb := C.2.1
  refine lv_aload_n hx hb dX4_outcome_0 rfl (lv_at hl 0 rfl) ?_
  refine gS_store_chip C hP (C.2.2.2.2.2.2.1 _ wq_309) dX4_outcome_1 ?_
  refine gnS_chip_powered C hP (NW.use C.2.2.2.2.2.2.2.2 wn_182) dX4_outcome_4 ?_
  refine lv_if_eq (tgt := 12) hx hb dX4_outcome_7 (by decide) (fun hc => ?_) (fun hc => ?_)
  · have h := h.1 hc
    refine lv_aload_n hx hb dX4_outcome_12 rfl (lv_at hl 0 rfl) ?_
    refine kWv (rnV C (ct_X4_switchOff l D cy Ad hap h) yv_X4_switchOff wq_354 ⟨rfl, rfl⟩ ⟨Nat.le_of_ble_eq_true rfl, Nat.le_of_ble_eq_true rfl⟩ ⟨Nat.zero_le _, Nat.zero_le _⟩ (vS_store C hP) hP hl.1 rfl rfl (Nat.le_of_ble_eq_true rfl) dX4_outcome_13) hS (fun _ h => h) (fun σ13 μ13 H locs h hP hk hS => ?_)
    refine lv_bipush (v := -3) hx hb dX4_outcome_16 (by decide) ?_
    exact endI C hS ⟨_, _, _, rfl, h, hP⟩ dX4_outcome_18
  · have h := h.2 hc
    refine lv_iload_n hx hb dX4_outcome_10 rfl (lv_at hl 1 rfl) ?_
    exact endI C hS ⟨_, _, _, rfl, h, hP⟩ dX4_outcome_11
abbrev rmX4_switchOn : Room := { frames := 5, cells := 0, slots := 0, locals := 117 }
def wb_X4_switchOn_66 (Q : Int32 → Rg → Ar → Prop) (σ : Rg) (μ : Ar) (v1 : Int32) : Prop := ∀ σ68 : Rg, σ68 = upd σ 0 v1 → (wp_X4_look σ68 μ  (fun σ73 μ73 => wp_X3_valuedTags σ73 μ73  (fun r76 σ76 μ76 => wp_J13_bitCount_95d88 r76 (fun r79 => wp_X4_outcome σ76 μ76 r79 (fun r82 σ82 μ82 => Q r82 σ82 μ82)))))
set_option maxHeartbeats 4000000 in
set_option maxRecDepth 100000 in
theorem wk_X4_switchOn_66 {p : Program} {l : Launch} {e : Env} {s : State} {m : MethodId} {args : Array Value} {below : List Frame} {meth : Method} {c : Code} {D : va_G} {cy : ClassId} {Ad : Nat → Nat} (C : Cx p s m args meth c RX4 cX4_switchOn 2 (some FieldType.int) D [(cy, .int)]) (hap : apt 18 Ad) {Q : Int32 → Rg → Ar → Prop} {σ : Rg} {μ : Ar} {v1 : Int32} {H : Heap} {locs : List Loc} {ls : Array Slot} (h : wb_X4_switchOn_66 Q σ μ v1) (hP : va_P D vwCl (wS Ad cy σ μ) H) (hS : va_S (AS 18 Ad) s.heap H locs) (hl : lv_has ls 2 [(0, .ref (Ad 0)), (1, .int v1)]) : W p l e rmX4_switchOn s m args below meth c H locs 0 0 (MQ below (Qcg (PWi (wS Ad cy) D Q) (AS 18 Ad)) args s 0 0 (AS 18 Ad)) (F0 m 66 ls []) := by
  have hx := C.1
  have hb := C.2.1
  refine lv_aload_n hx hb dX4_switchOn_66 rfl (lv_at hl 0 rfl) ?_
  refine lv_iload_n hx hb dX4_switchOn_67 rfl (lv_at hl 1 rfl) ?_
  refine pS_store_inUse C hap (fun _ h => h) hP hS (C.2.2.2.2.2.2.1 _ wq_316) dX4_switchOn_68 (fun H locs hP hS => ?_)
  obtain ⟨σ68, e68⟩ : ∃ z : Rg, z = upd σ 0 v1 := ⟨_, rfl⟩
  have hP : va_P D vwCl (wS Ad cy σ68 μ) H := by rw [e68]; exact hP
  have h := h σ68 e68
  refine lv_aload_n hx hb dX4_switchOn_71 rfl (lv_at hl 0 rfl) ?_
  refine lv_aload_n hx hb dX4_switchOn_72 rfl (lv_at hl 0 rfl) ?_
  refine kWr (rnV C (ct_X4_look l D cy Ad hap h) yv_X4_look wq_438 ⟨rfl, rfl⟩ ⟨Nat.le_of_ble_eq_true rfl, Nat.le_of_ble_eq_true rfl⟩ ⟨Nat.zero_le _, Nat.zero_le _⟩ (vS_store C hP) hP hl.1 rfl rfl (Nat.le_of_ble_eq_true rfl) dX4_switchOn_73) hS (fun _ h => h) (fun σ73 μ73 H locs h hP hk hS => ?_)
  refine kWl (rnVN C (ct_X3_valuedTags l D cy Ad hap h) yv_X3_valuedTags wn_487 ⟨rfl, rfl⟩ ⟨Nat.le_of_ble_eq_true rfl, Nat.le_of_ble_eq_true rfl⟩ ⟨Nat.zero_le _, Nat.zero_le _⟩ (vS_reading C hP) hP hl.1 rfl rfl (Nat.le_of_ble_eq_true rfl) dX4_switchOn_76) hS (fun _ h => h) (fun r76 σ76 μ76 H locs h hP hk hS => ?_)
  refine kNi (rnS (C.none) (ct_J13_bitCount_95d88 l D h) ys_J13_bitCount_95d88 wq_503 ⟨rfl, rfl⟩ ⟨Nat.le_of_ble_eq_true rfl, Nat.le_of_ble_eq_true rfl⟩ ⟨Nat.zero_le _, Nat.zero_le _⟩ trivial hl.1 rfl rfl (Nat.le_of_ble_eq_true rfl) dX4_switchOn_79) hS (fun _ h => h.elim) (fun r79 H locs h hk hS => ?_)
  have hP := keepN hP hk
  refine kWi (rnV C (ct_X4_outcome l D cy Ad hap h) yv_X4_outcome wq_509 ⟨rfl, rfl⟩ ⟨Nat.le_of_ble_eq_true rfl, Nat.le_of_ble_eq_true rfl⟩ ⟨Nat.zero_le _, Nat.zero_le _⟩ (vS_store C hP) hP hl.1 rfl rfl (Nat.le_of_ble_eq_true rfl) dX4_switchOn_82) hS (fun _ h => h) (fun r82 σ82 μ82 H locs h hP hk hS => ?_)
  exact endI C hS ⟨_, _, _, rfl, h, hP⟩ dX4_switchOn_85
def wp_X4_switchOn (σ : Rg) (μ : Ar) (Q : Int32 → Rg → Ar → Prop) : Prop := ∀ σ5 : Rg, σ5 = upd σ 7 (1 : Int32) → (∀ σ13 : Rg, σ13 = upd σ5 6 (0 : Int32) → (wp_X1_greatestActive σ13 μ  (fun r20 σ20 μ20 => wp_X1_eraseAllBut σ20 μ20 r20 (fun σ29 μ29 => ((¬ r20 = (-1 : Int32) → wb_X4_switchOn_66 Q σ29 μ29 r20) ∧ (r20 = (-1 : Int32) → wp_X1_leastErased σ29 μ29 (-1 : Int32) (fun r42 σ42 μ42 => wp_X1_makeReady σ42 μ42 r42 (1 : Int32) (fun σ52 μ52 => wp_X1_write σ52 μ52 r42 (0 : Int32) (63 : Int32) (fun σ63 μ63 => wb_X4_switchOn_66 Q σ63 μ63 r42)))))))))
set_option maxHeartbeats 4000000 in
set_option maxRecDepth 100000 in
theorem ct_X4_switchOn (l : Launch) (D : va_G) (cy : ClassId) (Ad : Nat → Nat) (hap : apt 18 Ad) {σ : Rg} {μ : Ar}  {Q : Int32 → Rg → Ar → Prop} (h : wp_X4_switchOn σ μ  Q) : Ct l yX4_switchOn cX4_switchOn 2 (some FieldType.int) rmX4_switchOn D [(cy, .int)] (fun H => va_P D vwCl (wS Ad cy σ μ) H) [.ref (Ad 0)] (AS 18 Ad) (PWi (wS Ad cy) D Q) := by
  refine Ct.of (by decide) (Nat.le_of_ble_eq_true rfl) ?_
  intro p e s m below meth c ls C hP hl
  have hl : lv_has ls 2 [(0, .ref (Ad 0))] := hl
  have hS : va_S (AS 18 Ad) s.heap s.heap [] := va_S.rf
  have hx := C.1
  have hb := C.2.1
  refine lv_aload_n hx hb dX4_switchOn_0 rfl (lv_at hl 0 rfl) ?_
  refine gS_store_chip C hP (C.2.2.2.2.2.2.1 _ wq_309) dX4_switchOn_1 ?_
  refine lv_iconst (v := 1) hx hb dX4_switchOn_4 (by decide) ?_
  refine pnS_chip_powered C hap (fun _ h => h) hP hS bz1 (NW.use C.2.2.2.2.2.2.2.2 wn_182) dX4_switchOn_5 (fun H locs hP hS => ?_)
  obtain ⟨σ5, e5⟩ : ∃ z : Rg, z = upd σ 7 (1 : Int32) := ⟨_, rfl⟩
  have hP : va_P D vwCl (wS Ad cy σ5 μ) H := by rw [e5]; exact hP
  have h := h σ5 e5
  refine lv_aload_n hx hb dX4_switchOn_8 rfl (lv_at hl 0 rfl) ?_
  refine gS_store_chip C hP (C.2.2.2.2.2.2.1 _ wq_309) dX4_switchOn_9 ?_
  refine lv_iconst (v := 0) hx hb dX4_switchOn_12 (by decide) ?_
  refine pnS_chip_doings C hap (fun _ h => h) hP hS (NW.use C.2.2.2.2.2.2.2.2 wn_179) dX4_switchOn_13 (fun H locs hP hS => ?_)
  obtain ⟨σ13, e13⟩ : ∃ z : Rg, z = upd σ5 6 (0 : Int32) := ⟨_, rfl⟩
  have hP : va_P D vwCl (wS Ad cy σ13 μ) H := by rw [e13]; exact hP
  have h := h σ13 e13
  refine lv_aload_n hx hb dX4_switchOn_16 rfl (lv_at hl 0 rfl) ?_
  refine gS_store_chip C hP (C.2.2.2.2.2.2.1 _ wq_309) dX4_switchOn_17 ?_
  refine kWi (rnVN C (ct_X1_greatestActive l D cy Ad hap h) yv_X1_greatestActive wn_374 ⟨rfl, rfl⟩ ⟨Nat.le_of_ble_eq_true rfl, Nat.le_of_ble_eq_true rfl⟩ ⟨Nat.zero_le _, Nat.zero_le _⟩ (vS_chip C hP) hP hl.1 rfl rfl (Nat.le_of_ble_eq_true rfl) dX4_switchOn_20) hS (fun _ h => h) (fun r20 σ20 μ20 H locs h hP hk hS => ?_)
  refine lv_istore_n (lv' := [(1, .int r20), (0, .ref (Ad 0))]) hx hb dX4_switchOn_23 rfl hl (by decide) rfl (fun ls hl => ?_)
  refine lv_aload_n hx hb dX4_switchOn_24 rfl (lv_at hl 1 rfl) ?_
  refine gS_store_chip C hP (C.2.2.2.2.2.2.1 _ wq_309) dX4_switchOn_25 ?_
  refine lv_iload_n hx hb dX4_switchOn_28 rfl (lv_at hl 0 rfl) ?_
  refine kWv (rnVN C (ct_X1_eraseAllBut l D cy Ad hap h) yv_X1_eraseAllBut wn_397 ⟨rfl, rfl⟩ ⟨Nat.le_of_ble_eq_true rfl, Nat.le_of_ble_eq_true rfl⟩ ⟨Nat.zero_le _, Nat.zero_le _⟩ (vS_chip C hP) hP hl.1 rfl rfl (Nat.le_of_ble_eq_true rfl) dX4_switchOn_29) hS (fun _ h => h) (fun σ29 μ29 H locs h hP hk hS => ?_)
  refine lv_iload_n hx hb dX4_switchOn_32 rfl (lv_at hl 0 rfl) ?_
  refine lv_iconst (v := -1) hx hb dX4_switchOn_33 (by decide) ?_
  refine lv_icmp_ne (tgt := 66) hx hb dX4_switchOn_34 (by decide) (fun hc => ?_) (fun hc => ?_)
  · have h := h.1 hc
    exact wk_X4_switchOn_66 C hap h hP hS (lv_sub hl [1, 0] rfl)
  · have h := h.2 hc
    refine lv_aload_n hx hb dX4_switchOn_37 rfl (lv_at hl 1 rfl) ?_
    refine gS_store_chip C hP (C.2.2.2.2.2.2.1 _ wq_309) dX4_switchOn_38 ?_
    refine lv_iconst (v := -1) hx hb dX4_switchOn_41 (by decide) ?_
    refine kWi (rnVN C (ct_X1_leastErased l D cy Ad hap h) yv_X1_leastErased wn_421 ⟨rfl, rfl⟩ ⟨Nat.le_of_ble_eq_true rfl, Nat.le_of_ble_eq_true rfl⟩ ⟨Nat.zero_le _, Nat.zero_le _⟩ (vS_chip C hP) hP hl.1 rfl rfl (Nat.le_of_ble_eq_true rfl) dX4_switchOn_42) hS (fun _ h => h) (fun r42 σ42 μ42 H locs h hP hk hS => ?_)
    refine lv_istore_n (lv' := [(1, .int r42), (0, .ref (Ad 0))]) hx hb dX4_switchOn_45 rfl hl (by decide) rfl (fun ls hl => ?_)
    refine lv_aload_n hx hb dX4_switchOn_46 rfl (lv_at hl 1 rfl) ?_
    refine gS_store_chip C hP (C.2.2.2.2.2.2.1 _ wq_309) dX4_switchOn_47 ?_
    refine lv_iload_n hx hb dX4_switchOn_50 rfl (lv_at hl 0 rfl) ?_
    refine lv_iconst (v := 1) hx hb dX4_switchOn_51 (by decide) ?_
    refine kWv (rnVN C (ct_X1_makeReady l D cy Ad hap h) yv_X1_makeReady wn_429 ⟨rfl, rfl⟩ ⟨Nat.le_of_ble_eq_true rfl, Nat.le_of_ble_eq_true rfl⟩ ⟨Nat.zero_le _, Nat.zero_le _⟩ (vS_chip C hP) hP hl.1 rfl rfl (Nat.le_of_ble_eq_true rfl) dX4_switchOn_52) hS (fun _ h => h) (fun σ52 μ52 H locs h hP hk hS => ?_)
    refine lv_aload_n hx hb dX4_switchOn_55 rfl (lv_at hl 1 rfl) ?_
    refine gS_store_chip C hP (C.2.2.2.2.2.2.1 _ wq_309) dX4_switchOn_56 ?_
    refine lv_iload_n hx hb dX4_switchOn_59 rfl (lv_at hl 0 rfl) ?_
    refine lv_iconst (v := 0) hx hb dX4_switchOn_60 (by decide) ?_
    refine lv_bipush (v := 63) hx hb dX4_switchOn_61 (by decide) ?_
    refine kWv (rnVN C (ct_X1_write l D cy Ad hap h) yv_X1_write wn_437 ⟨rfl, rfl⟩ ⟨Nat.le_of_ble_eq_true rfl, Nat.le_of_ble_eq_true rfl⟩ ⟨Nat.zero_le _, Nat.zero_le _⟩ (vS_chip C hP) hP hl.1 rfl rfl (Nat.le_of_ble_eq_true rfl) dX4_switchOn_63) hS (fun _ h => h) (fun σ63 μ63 H locs h hP hk hS => ?_)
    exact wk_X4_switchOn_66 C hap h hP hS (lv_sub hl [1, 0] rfl)
abbrev rmX4_wouldHave : Room := { frames := 5, cells := 0, slots := 0, locals := 117 }
def wb_X4_wouldHave_45 (Q : Int32 → Rg → Ar → Prop) (σ : Rg) (μ : Ar) (t0 : Int32) : Prop := (bz t0) ∧ (Q t0 σ μ)
set_option maxHeartbeats 4000000 in
set_option maxRecDepth 100000 in
theorem wk_X4_wouldHave_45 {p : Program} {l : Launch} {e : Env} {s : State} {m : MethodId} {args : Array Value} {below : List Frame} {meth : Method} {c : Code} {D : va_G} {cy : ClassId} {Ad : Nat → Nat} (C : Cx p s m args meth c RX4 cX4_wouldHave 3 (some FieldType.boolean) D [(cy, .int)]) (hap : apt 18 Ad) {Q : Int32 → Rg → Ar → Prop} {σ : Rg} {μ : Ar} {t0 : Int32} {H : Heap} {locs : List Loc} {ls : Array Slot} (h : wb_X4_wouldHave_45 Q σ μ t0) (hP : va_P D vwCl (wS Ad cy σ μ) H) (hS : va_S (AS 18 Ad) s.heap H locs) (hl : lv_has ls 3 []) : W p l e rmX4_wouldHave s m args below meth c H locs 0 0 (MQ below (Qcg (PWi (wS Ad cy) D Q) (AS 18 Ad)) args s 0 0 (AS 18 Ad)) (F0 m 45 ls [.int t0]) := by
  have hx := C.1
  have hb := C.2.1
  obtain ⟨hc, h⟩ := h
  exact endZ C hS hc ⟨_, _, _, rfl, h, hP⟩ dX4_wouldHave_45
def wb_X4_wouldHave_22 (Q : Int32 → Rg → Ar → Prop) (σ : Rg) (μ : Ar) (v1 : Int32) (t0 : Int32) : Prop := ((t0 = (-1 : Int32) → wp_X4_look σ μ  (fun σ47 μ47 => wp_X3_hasValue σ47 μ47 v1 (fun r51 σ51 μ51 => (bz r51) ∧ (Q r51 σ51 μ51)))) ∧ (¬ t0 = (-1 : Int32) → (vp_in t0 8) ∧ ((((μ 11 (t0).toNatClampNeg) ≤ 0 → wb_X4_wouldHave_45 Q σ μ (0 : Int32)) ∧ (¬ (μ 11 (t0).toNatClampNeg) ≤ 0 → wb_X4_wouldHave_45 Q σ μ (1 : Int32))))))
set_option maxHeartbeats 4000000 in
set_option maxRecDepth 100000 in
theorem wk_X4_wouldHave_22 {p : Program} {l : Launch} {e : Env} {s : State} {m : MethodId} {args : Array Value} {below : List Frame} {meth : Method} {c : Code} {D : va_G} {cy : ClassId} {Ad : Nat → Nat} (C : Cx p s m args meth c RX4 cX4_wouldHave 3 (some FieldType.boolean) D [(cy, .int)]) (hap : apt 18 Ad) {Q : Int32 → Rg → Ar → Prop} {σ : Rg} {μ : Ar} {v1 : Int32} {t0 : Int32} {H : Heap} {locs : List Loc} {ls : Array Slot} (h : wb_X4_wouldHave_22 Q σ μ v1 t0) (hP : va_P D vwCl (wS Ad cy σ μ) H) (hS : va_S (AS 18 Ad) s.heap H locs) (hl : lv_has ls 3 [(0, .ref (Ad 0)), (1, .int v1)]) : W p l e rmX4_wouldHave s m args below meth c H locs 0 0 (MQ below (Qcg (PWi (wS Ad cy) D Q) (AS 18 Ad)) args s 0 0 (AS 18 Ad)) (F0 m 22 ls [.int t0]) := by
  have hx := C.1
  have hb := C.2.1
  refine lv_istore_n (lv' := [(2, .int t0), (0, .ref (Ad 0)), (1, .int v1)]) hx hb dX4_wouldHave_22 rfl hl (by decide) rfl (fun ls hl => ?_)
  refine lv_iload_n hx hb dX4_wouldHave_23 rfl (lv_at hl 0 rfl) ?_
  refine lv_iconst (v := -1) hx hb dX4_wouldHave_24 (by decide) ?_
  refine lv_icmp_eq (tgt := 46) hx hb dX4_wouldHave_25 (by decide) (fun hc => ?_) (fun hc => ?_)
  · have h := h.1 hc
    refine lv_aload_n hx hb dX4_wouldHave_46 rfl (lv_at hl 1 rfl) ?_
    refine kWr (rnV C (ct_X4_look l D cy Ad hap h) yv_X4_look wq_438 ⟨rfl, rfl⟩ ⟨Nat.le_of_ble_eq_true rfl, Nat.le_of_ble_eq_true rfl⟩ ⟨Nat.zero_le _, Nat.zero_le _⟩ (vS_store C hP) hP hl.1 rfl rfl (Nat.le_of_ble_eq_true rfl) dX4_wouldHave_47) hS (fun _ h => h) (fun σ47 μ47 H locs h hP hk hS => ?_)
    refine lv_iload_n hx hb dX4_wouldHave_50 rfl (lv_at hl 2 rfl) ?_
    refine kWi (rnVN C (ct_X3_hasValue l D cy Ad hap h) yv_X3_hasValue wn_578 ⟨rfl, rfl⟩ ⟨Nat.le_of_ble_eq_true rfl, Nat.le_of_ble_eq_true rfl⟩ ⟨Nat.zero_le _, Nat.zero_le _⟩ (vS_reading C hP) hP hl.1 rfl rfl (Nat.le_of_ble_eq_true rfl) dX4_wouldHave_51) hS (fun _ h => h) (fun r51 σ51 μ51 H locs h hP hk hS => ?_)
    obtain ⟨hc, h⟩ := h
    exact endZ C hS hc ⟨_, _, _, rfl, h, hP⟩ dX4_wouldHave_54
  · have h := h.2 hc
    refine lv_aload_n hx hb dX4_wouldHave_28 rfl (lv_at hl 1 rfl) ?_
    refine gS_store_change C hP (C.2.2.2.2.2.2.1 _ wq_313) dX4_wouldHave_29 ?_
    refine gnS_change_lengths C hP (NW.use C.2.2.2.2.2.2.2.2 wn_265) dX4_wouldHave_32 ?_
    refine lv_iload_n hx hb dX4_wouldHave_35 rfl (lv_at hl 0 rfl) ?_
    obtain ⟨hc, h⟩ := h
    refine lS_11 C hP hc dX4_wouldHave_36 ?_
    refine lv_if_le (tgt := 44) hx hb dX4_wouldHave_37 (by decide) (fun hc => ?_) (fun hc => ?_)
    · have h := h.1 hc
      refine lv_iconst (v := 0) hx hb dX4_wouldHave_44 (by decide) ?_
      exact wk_X4_wouldHave_45 C hap h hP hS (lv_sub hl [] rfl)
    · have h := h.2 hc
      refine lv_iconst (v := 1) hx hb dX4_wouldHave_40 (by decide) ?_
      refine lv_goto (tgt := 45) hx hb dX4_wouldHave_41 (by decide) ?_
      exact wk_X4_wouldHave_45 C hap h hP hS (lv_sub hl [] rfl)
def wp_X4_wouldHave (σ : Rg) (μ : Ar) (x1 : Int32) (Q : Int32 → Rg → Ar → Prop) : Prop := (((σ 15) = 0 → wb_X4_wouldHave_22 Q σ μ x1 (-1 : Int32)) ∧ (¬ (σ 15) = 0 → wp_X0_find σ μ x1 (fun r15 σ15 μ15 => wb_X4_wouldHave_22 Q σ15 μ15 x1 r15)))
set_option maxHeartbeats 4000000 in
set_option maxRecDepth 100000 in
theorem ct_X4_wouldHave (l : Launch) (D : va_G) (cy : ClassId) (Ad : Nat → Nat) (hap : apt 18 Ad) {σ : Rg} {μ : Ar} {x1 : Int32} {Q : Int32 → Rg → Ar → Prop} (h : wp_X4_wouldHave σ μ x1 Q) : Ct l yX4_wouldHave cX4_wouldHave 3 (some FieldType.boolean) rmX4_wouldHave D [(cy, .int)] (fun H => va_P D vwCl (wS Ad cy σ μ) H) [.ref (Ad 0), .int x1] (AS 18 Ad) (PWi (wS Ad cy) D Q) := by
  refine Ct.of (by decide) (Nat.le_of_ble_eq_true rfl) ?_
  intro p e s m below meth c ls C hP hl
  have hl : lv_has ls 3 [(0, .ref (Ad 0)), (1, .int x1)] := hl
  have hS : va_S (AS 18 Ad) s.heap s.heap [] := va_S.rf
  have hx := C.1
  have hb := C.2.1
  refine lv_aload_n hx hb dX4_wouldHave_0 rfl (lv_at hl 0 rfl) ?_
  refine gS_store_change C hP (C.2.2.2.2.2.2.1 _ wq_313) dX4_wouldHave_1 ?_
  refine gnS_change_begun C hP (NW.use C.2.2.2.2.2.2.2.2 wn_268) dX4_wouldHave_4 ?_
  refine lv_if_eq (tgt := 21) hx hb dX4_wouldHave_7 (by decide) (fun hc => ?_) (fun hc => ?_)
  · have h := h.1 hc
    refine lv_iconst (v := -1) hx hb dX4_wouldHave_21 (by decide) ?_
    exact wk_X4_wouldHave_22 C hap h hP hS (lv_sub hl [0, 1] rfl)
  · have h := h.2 hc
    refine lv_aload_n hx hb dX4_wouldHave_10 rfl (lv_at hl 0 rfl) ?_
    refine gS_store_change C hP (C.2.2.2.2.2.2.1 _ wq_313) dX4_wouldHave_11 ?_
    refine lv_iload_n hx hb dX4_wouldHave_14 rfl (lv_at hl 1 rfl) ?_
    refine kWi (rnVN C (ct_X0_find l D cy Ad hap h) yv_X0_find wn_637 ⟨rfl, rfl⟩ ⟨Nat.le_of_ble_eq_true rfl, Nat.le_of_ble_eq_true rfl⟩ ⟨Nat.zero_le _, Nat.zero_le _⟩ (vS_change C hP) hP hl.1 rfl rfl (Nat.le_of_ble_eq_true rfl) dX4_wouldHave_15) hS (fun _ h => h) (fun r15 σ15 μ15 H locs h hP hk hS => ?_)
    refine lv_goto (tgt := 22) hx hb dX4_wouldHave_18 (by decide) ?_
    exact wk_X4_wouldHave_22 C hap h hP hS (lv_sub hl [0, 1] rfl)
abbrev rmX4_handOver : Room := { frames := 3, cells := 0, slots := 0, locals := 70 }
def wb_X4_handOver_223 (Q : Rg → Ar → Prop) (σ : Rg) (μ : Ar) : Prop := Q σ μ
set_option maxHeartbeats 4000000 in
set_option maxRecDepth 100000 in
theorem wk_X4_handOver_223 {p : Program} {l : Launch} {e : Env} {s : State} {m : MethodId} {args : Array Value} {below : List Frame} {meth : Method} {c : Code} {D : va_G} {cy : ClassId} {Ad : Nat → Nat} (C : Cx p s m args meth c RX4 cX4_handOver 5 (none : Option FieldType) D [(cy, .int)]) (hap : apt 18 Ad) {Q : Rg → Ar → Prop} {σ : Rg} {μ : Ar}  {H : Heap} {locs : List Loc} {ls : Array Slot} (h : wb_X4_handOver_223 Q σ μ) (hP : va_P D vwCl (wS Ad cy σ μ) H) (hS : va_S (AS 18 Ad) s.heap H locs) (hl : lv_has ls 5 []) : W p l e rmX4_handOver s m args below meth c H locs 0 0 (MQ below (Qcg (PWv (wS Ad cy) D Q) (AS 18 Ad)) args s 0 0 (AS 18 Ad)) (F0 m 223 ls []) := by
  have hx := C.1
  have hb := C.2.1
  exact endV C hS ⟨_, _, rfl, h, hP⟩ dX4_handOver_223
def wb_X4_handOver_170 (Q : Rg → Ar → Prop) (k59 : Rg → Ar → Int32 → Int32 → Int32 → Prop) (σ : Rg) (μ : Ar) (v1 : Int32) (v2 : Int32) (v3 : Int32) : Prop := ∀ y170 : Int32, y170 = v3 + (1 : Int32) → (k59 σ μ v1 v2 y170)
set_option maxHeartbeats 4000000 in
set_option maxRecDepth 100000 in
theorem wk_X4_handOver_170 {p : Program} {l : Launch} {e : Env} {s : State} {m : MethodId} {args : Array Value} {below : List Frame} {meth : Method} {c : Code} {D : va_G} {cy : ClassId} {Ad : Nat → Nat} (C : Cx p s m args meth c RX4 cX4_handOver 5 (none : Option FieldType) D [(cy, .int)]) (hap : apt 18 Ad) {Q : Rg → Ar → Prop} {k59 : Rg → Ar → Int32 → Int32 → Int32 → Prop} (hk59 : ∀ {σ : Rg} {μ : Ar} {v1 : Int32} {v2 : Int32} {v3 : Int32} {H : Heap} {locs : List Loc} {ls : Array Slot}, k59 σ μ v1 v2 v3 → va_P D vwCl (wS Ad cy σ μ) H → va_S (AS 18 Ad) s.heap H locs → lv_has ls 5 [(0, .ref (Ad 0)), (1, .int v1), (2, .int v2), (3, .int v3)] → W p l e rmX4_handOver s m args below meth c H locs 0 0 (MQ below (Qcg (PWv (wS Ad cy) D Q) (AS 18 Ad)) args s 0 0 (AS 18 Ad)) (F0 m 59 ls [])) {σ : Rg} {μ : Ar} {v1 : Int32} {v2 : Int32} {v3 : Int32} {H : Heap} {locs : List Loc} {ls : Array Slot} (h : wb_X4_handOver_170 Q k59 σ μ v1 v2 v3) (hP : va_P D vwCl (wS Ad cy σ μ) H) (hS : va_S (AS 18 Ad) s.heap H locs) (hl : lv_has ls 5 [(0, .ref (Ad 0)), (1, .int v1), (2, .int v2), (3, .int v3)]) : W p l e rmX4_handOver s m args below meth c H locs 0 0 (MQ below (Qcg (PWv (wS Ad cy) D Q) (AS 18 Ad)) args s 0 0 (AS 18 Ad)) (F0 m 170 ls []) := by
  have hx := C.1
  have hb := C.2.1
  obtain ⟨y170, e170⟩ : ∃ y : Int32, y = v3 + (1 : Int32) := ⟨_, rfl⟩
  have h := h y170 e170
  refine lv_iinc (v := y170) (lv' := [(3, .int y170), (0, .ref (Ad 0)), (1, .int v1), (2, .int v2)]) hx hb dX4_handOver_170 hl (k := 3) rfl (by rw [e170]; rfl) (by decide) rfl (fun ls hl => ?_)
  refine lv_goto (tgt := 59) hx hb dX4_handOver_173 (by decide) ?_
  exact hk59 h hP hS (lv_sub hl [1, 2, 3, 0] rfl)
def wb_X4_handOver_168 (Q : Rg → Ar → Prop) (k59 : Rg → Ar → Int32 → Int32 → Int32 → Prop) (σ : Rg) (μ : Ar) (v1 : Int32) (v3 : Int32) (t0 : Int32) (t1 : Int32) : Prop := ∀ y169 : Int32, y169 = (t1 + t0) → (wb_X4_handOver_170 Q k59 σ μ v1 y169 v3)
set_option maxHeartbeats 4000000 in
set_option maxRecDepth 100000 in
theorem wk_X4_handOver_168 {p : Program} {l : Launch} {e : Env} {s : State} {m : MethodId} {args : Array Value} {below : List Frame} {meth : Method} {c : Code} {D : va_G} {cy : ClassId} {Ad : Nat → Nat} (C : Cx p s m args meth c RX4 cX4_handOver 5 (none : Option FieldType) D [(cy, .int)]) (hap : apt 18 Ad) {Q : Rg → Ar → Prop} {k59 : Rg → Ar → Int32 → Int32 → Int32 → Prop} (hk59 : ∀ {σ : Rg} {μ : Ar} {v1 : Int32} {v2 : Int32} {v3 : Int32} {H : Heap} {locs : List Loc} {ls : Array Slot}, k59 σ μ v1 v2 v3 → va_P D vwCl (wS Ad cy σ μ) H → va_S (AS 18 Ad) s.heap H locs → lv_has ls 5 [(0, .ref (Ad 0)), (1, .int v1), (2, .int v2), (3, .int v3)] → W p l e rmX4_handOver s m args below meth c H locs 0 0 (MQ below (Qcg (PWv (wS Ad cy) D Q) (AS 18 Ad)) args s 0 0 (AS 18 Ad)) (F0 m 59 ls [])) {σ : Rg} {μ : Ar} {v1 : Int32} {v3 : Int32} {t0 : Int32} {t1 : Int32} {H : Heap} {locs : List Loc} {ls : Array Slot} (h : wb_X4_handOver_168 Q k59 σ μ v1 v3 t0 t1) (hP : va_P D vwCl (wS Ad cy σ μ) H) (hS : va_S (AS 18 Ad) s.heap H locs) (hl : lv_has ls 5 [(0, .ref (Ad 0)), (1, .int v1), (3, .int v3)]) : W p l e rmX4_handOver s m args below meth c H locs 0 0 (MQ below (Qcg (PWv (wS Ad cy) D Q) (AS 18 Ad)) args s 0 0 (AS 18 Ad)) (F0 m 168 ls [.int t0, .int t1]) := by
  have hx := C.1
  have hb := C.2.1
  refine lv_iadd hx hb dX4_handOver_168 ?_
  refine lv_topi (fun y169 e169 => ?_)
  have h := h y169 e169
  refine lv_istore_n (lv' := [(2, .int y169), (0, .ref (Ad 0)), (1, .int v1), (3, .int v3)]) hx hb dX4_handOver_169 rfl hl (by decide) rfl (fun ls hl => ?_)
  exact wk_X4_handOver_170 C hap hk59 h hP hS (lv_sub hl [1, 2, 0, 3] rfl)
def wb_X4_handOver_136 (Q : Rg → Ar → Prop) (k59 : Rg → Ar → Int32 → Int32 → Int32 → Prop) (σ : Rg) (μ : Ar) (v1 : Int32) (v2 : Int32) (v3 : Int32) : Prop := wp_X1_writeDraft σ μ v1 v2 (fun σ146 μ146 => (((32 : Int32) ≤ v3 → wb_X4_handOver_168 Q k59 σ146 μ146 v1 v3 (14 : Int32) v2) ∧ (¬ (32 : Int32) ≤ v3 → wb_X4_handOver_168 Q k59 σ146 μ146 v1 v3 (σ146 17) v2)))
set_option maxHeartbeats 4000000 in
set_option maxRecDepth 100000 in
theorem wk_X4_handOver_136 {p : Program} {l : Launch} {e : Env} {s : State} {m : MethodId} {args : Array Value} {below : List Frame} {meth : Method} {c : Code} {D : va_G} {cy : ClassId} {Ad : Nat → Nat} (C : Cx p s m args meth c RX4 cX4_handOver 5 (none : Option FieldType) D [(cy, .int)]) (hap : apt 18 Ad) {Q : Rg → Ar → Prop} {k59 : Rg → Ar → Int32 → Int32 → Int32 → Prop} (hk59 : ∀ {σ : Rg} {μ : Ar} {v1 : Int32} {v2 : Int32} {v3 : Int32} {H : Heap} {locs : List Loc} {ls : Array Slot}, k59 σ μ v1 v2 v3 → va_P D vwCl (wS Ad cy σ μ) H → va_S (AS 18 Ad) s.heap H locs → lv_has ls 5 [(0, .ref (Ad 0)), (1, .int v1), (2, .int v2), (3, .int v3)] → W p l e rmX4_handOver s m args below meth c H locs 0 0 (MQ below (Qcg (PWv (wS Ad cy) D Q) (AS 18 Ad)) args s 0 0 (AS 18 Ad)) (F0 m 59 ls [])) {σ : Rg} {μ : Ar} {v1 : Int32} {v2 : Int32} {v3 : Int32} {H : Heap} {locs : List Loc} {ls : Array Slot} (h : wb_X4_handOver_136 Q k59 σ μ v1 v2 v3) (hP : va_P D vwCl (wS Ad cy σ μ) H) (hS : va_S (AS 18 Ad) s.heap H locs) (hl : lv_has ls 5 [(0, .ref (Ad 0)), (1, .int v1), (2, .int v2), (3, .int v3)]) : W p l e rmX4_handOver s m args below meth c H locs 0 0 (MQ below (Qcg (PWv (wS Ad cy) D Q) (AS 18 Ad)) args s 0 0 (AS 18 Ad)) (F0 m 136 ls []) := by
  have hx := C.1
  have hb := C.2.1
  refine lv_aload_n hx hb dX4_handOver_136 rfl (lv_at hl 0 rfl) ?_
  refine gS_store_chip C hP (C.2.2.2.2.2.2.1 _ wq_309) dX4_handOver_137 ?_
  refine lv_iload_n hx hb dX4_handOver_140 rfl (lv_at hl 1 rfl) ?_
  refine lv_iload_n hx hb dX4_handOver_141 rfl (lv_at hl 2 rfl) ?_
  refine lv_aload_n hx hb dX4_handOver_142 rfl (lv_at hl 0 rfl) ?_
  refine gS_store_draft C hP (C.2.2.2.2.2.2.1 _ wq_315) dX4_handOver_143 ?_
  refine kWv (rnVN C (ct_X1_writeDraft l D cy Ad hap h) yv_X1_writeDraft wn_625 ⟨rfl, rfl⟩ ⟨Nat.le_of_ble_eq_true rfl, Nat.le_of_ble_eq_true rfl⟩ ⟨Nat.zero_le _, Nat.zero_le _⟩ (vS_chip C hP) hP hl.1 rfl rfl (Nat.le_of_ble_eq_true rfl) dX4_handOver_146) hS (fun _ h => h) (fun σ146 μ146 H locs h hP hk hS => ?_)
  refine lv_iload_n hx hb dX4_handOver_149 rfl (lv_at hl 2 rfl) ?_
  refine lv_iload_n hx hb dX4_handOver_150 rfl (lv_at hl 3 rfl) ?_
  refine lv_bipush (v := 32) hx hb dX4_handOver_151 (by decide) ?_
  refine lv_icmp_ge (tgt := 166) hx hb dX4_handOver_153 (by decide) (fun hc => ?_) (fun hc => ?_)
  · have h := h.1 hc
    refine lv_bipush (v := 14) hx hb dX4_handOver_166 (by decide) ?_
    exact wk_X4_handOver_168 C hap hk59 h hP hS (lv_sub hl [0, 1, 3] rfl)
  · have h := h.2 hc
    refine lv_aload_n hx hb dX4_handOver_156 rfl (lv_at hl 0 rfl) ?_
    refine gS_store_draft C hP (C.2.2.2.2.2.2.1 _ wq_315) dX4_handOver_157 ?_
    refine gnS_draft_used C hP (NW.use C.2.2.2.2.2.2.2.2 wn_293) dX4_handOver_160 ?_
    refine lv_goto (tgt := 168) hx hb dX4_handOver_163 (by decide) ?_
    exact wk_X4_handOver_168 C hap hk59 h hP hS (lv_sub hl [0, 1, 3] rfl)
def wb_X4_handOver_59 (Q : Rg → Ar → Prop) (k59 : Rg → Ar → Int32 → Int32 → Int32 → Prop) (σ : Rg) (μ : Ar) (v1 : Int32) (v2 : Int32) (v3 : Int32) : Prop := (((48 : Int32) ≤ v3 → wp_X1_write σ μ v1 (0 : Int32) (63 : Int32) (fun σ184 μ184 => wp_X1_erase σ184 μ184 (σ184 0) (fun σ195 μ195 => (((σ195 7) = 0 → wb_X4_handOver_223 Q σ195 μ195) ∧ (¬ (σ195 7) = 0 → ∀ σ210 : Rg, σ210 = upd σ195 0 v1 → (∀ σ220 : Rg, σ220 = upd σ210 1 ((σ210 1) + (1 : Int32)) → (wb_X4_handOver_223 Q σ220 μ195))))))) ∧ (¬ (48 : Int32) ≤ v3 → wp_X3_hasValue σ μ v3 (fun r70 σ70 μ70 => ((¬ r70 = 0 → wp_X3_newestOf σ70 μ70 v3 (fun r88 σ88 μ88 => wp_X3_valueOf σ88 μ88 r88 (fun r91 σ91 μ91 => ∀ y95 : Int32, y95 = (r91).toInt32 → ((((32 : Int32) ≤ v3 → wp_X2_fillCounter σ91 μ91 v3 y95 (fun σ133 μ133 => wb_X4_handOver_136 Q k59 σ133 μ133 v1 v2 v3)) ∧ (¬ (32 : Int32) ≤ v3 → wp_X3_newestLength σ91 μ91 v3 (fun r117 σ117 μ117 => wp_X2_fillSetting σ117 μ117 v3 (16 : Int32) y95 r117 (fun σ120 μ120 => wb_X4_handOver_136 Q k59 σ120 μ120 v1 v2 v3)))))))) ∧ (r70 = 0 → wb_X4_handOver_170 Q k59 σ70 μ70 v1 v2 v3)))))
set_option maxHeartbeats 4000000 in
set_option maxRecDepth 100000 in
theorem wk_X4_handOver_59 {p : Program} {l : Launch} {e : Env} {s : State} {m : MethodId} {args : Array Value} {below : List Frame} {meth : Method} {c : Code} {D : va_G} {cy : ClassId} {Ad : Nat → Nat} (C : Cx p s m args meth c RX4 cX4_handOver 5 (none : Option FieldType) D [(cy, .int)]) (hap : apt 18 Ad) {Q : Rg → Ar → Prop} {k59 : Rg → Ar → Int32 → Int32 → Int32 → Prop} (hk59 : ∀ {σ : Rg} {μ : Ar} {v1 : Int32} {v2 : Int32} {v3 : Int32} {H : Heap} {locs : List Loc} {ls : Array Slot}, k59 σ μ v1 v2 v3 → va_P D vwCl (wS Ad cy σ μ) H → va_S (AS 18 Ad) s.heap H locs → lv_has ls 5 [(0, .ref (Ad 0)), (1, .int v1), (2, .int v2), (3, .int v3)] → W p l e rmX4_handOver s m args below meth c H locs 0 0 (MQ below (Qcg (PWv (wS Ad cy) D Q) (AS 18 Ad)) args s 0 0 (AS 18 Ad)) (F0 m 59 ls [])) {σ : Rg} {μ : Ar} {v1 : Int32} {v2 : Int32} {v3 : Int32} {H : Heap} {locs : List Loc} {ls : Array Slot} (h : wb_X4_handOver_59 Q k59 σ μ v1 v2 v3) (hP : va_P D vwCl (wS Ad cy σ μ) H) (hS : va_S (AS 18 Ad) s.heap H locs) (hl : lv_has ls 5 [(0, .ref (Ad 0)), (1, .int v1), (2, .int v2), (3, .int v3)]) : W p l e rmX4_handOver s m args below meth c H locs 0 0 (MQ below (Qcg (PWv (wS Ad cy) D Q) (AS 18 Ad)) args s 0 0 (AS 18 Ad)) (F0 m 59 ls []) := by
  have hx := C.1
  have hb := C.2.1
  refine lv_iload_n hx hb dX4_handOver_59 rfl (lv_at hl 3 rfl) ?_
  refine lv_bipush (v := 48) hx hb dX4_handOver_60 (by decide) ?_
  refine lv_icmp_ge (tgt := 176) hx hb dX4_handOver_62 (by decide) (fun hc => ?_) (fun hc => ?_)
  · have h := h.1 hc
    refine lv_aload_n hx hb dX4_handOver_176 rfl (lv_at hl 0 rfl) ?_
    refine gS_store_chip C hP (C.2.2.2.2.2.2.1 _ wq_309) dX4_handOver_177 ?_
    refine lv_iload_n hx hb dX4_handOver_180 rfl (lv_at hl 1 rfl) ?_
    refine lv_iconst (v := 0) hx hb dX4_handOver_181 (by decide) ?_
    refine lv_bipush (v := 63) hx hb dX4_handOver_182 (by decide) ?_
    refine kWv (rnVN C (ct_X1_write l D cy Ad hap h) yv_X1_write wn_437 ⟨rfl, rfl⟩ ⟨Nat.le_of_ble_eq_true rfl, Nat.le_of_ble_eq_true rfl⟩ ⟨Nat.zero_le _, Nat.zero_le _⟩ (vS_chip C hP) hP hl.1 rfl rfl (Nat.le_of_ble_eq_true rfl) dX4_handOver_184) hS (fun _ h => h) (fun σ184 μ184 H locs h hP hk hS => ?_)
    refine lv_aload_n hx hb dX4_handOver_187 rfl (lv_at hl 0 rfl) ?_
    refine gS_store_chip C hP (C.2.2.2.2.2.2.1 _ wq_309) dX4_handOver_188 ?_
    refine lv_aload_n hx hb dX4_handOver_191 rfl (lv_at hl 0 rfl) ?_
    refine gS_store_inUse C hP (C.2.2.2.2.2.2.1 _ wq_316) dX4_handOver_192 ?_
    refine kWv (rnVN C (ct_X1_erase l D cy Ad hap h) yv_X1_erase wn_575 ⟨rfl, rfl⟩ ⟨Nat.le_of_ble_eq_true rfl, Nat.le_of_ble_eq_true rfl⟩ ⟨Nat.zero_le _, Nat.zero_le _⟩ (vS_chip C hP) hP hl.1 rfl rfl (Nat.le_of_ble_eq_true rfl) dX4_handOver_195) hS (fun _ h => h) (fun σ195 μ195 H locs h hP hk hS => ?_)
    refine lv_aload_n hx hb dX4_handOver_198 rfl (lv_at hl 0 rfl) ?_
    refine gS_store_chip C hP (C.2.2.2.2.2.2.1 _ wq_309) dX4_handOver_199 ?_
    refine gnS_chip_powered C hP (NW.use C.2.2.2.2.2.2.2.2 wn_182) dX4_handOver_202 ?_
    refine lv_if_eq (tgt := 223) hx hb dX4_handOver_205 (by decide) (fun hc => ?_) (fun hc => ?_)
    · have h := h.1 hc
      exact wk_X4_handOver_223 C hap h hP hS (lv_sub hl [] rfl)
    · have h := h.2 hc
      refine lv_aload_n hx hb dX4_handOver_208 rfl (lv_at hl 0 rfl) ?_
      refine lv_iload_n hx hb dX4_handOver_209 rfl (lv_at hl 1 rfl) ?_
      refine pS_store_inUse C hap (fun _ h => h) hP hS (C.2.2.2.2.2.2.1 _ wq_316) dX4_handOver_210 (fun H locs hP hS => ?_)
      obtain ⟨σ210, e210⟩ : ∃ z : Rg, z = upd σ195 0 v1 := ⟨_, rfl⟩
      have hP : va_P D vwCl (wS Ad cy σ210 μ195) H := by rw [e210]; exact hP
      have h := h σ210 e210
      refine lv_aload_n hx hb dX4_handOver_213 rfl (lv_at hl 0 rfl) ?_
      refine lv_dup hx hb dX4_handOver_214 rfl ?_
      refine gS_store_handovers C hP (C.2.2.2.2.2.2.1 _ wq_318) dX4_handOver_215 ?_
      refine lv_iconst (v := 1) hx hb dX4_handOver_218 (by decide) ?_
      refine lv_iadd hx hb dX4_handOver_219 ?_
      refine pS_store_handovers C hap (fun _ h => h) hP hS (C.2.2.2.2.2.2.1 _ wq_318) dX4_handOver_220 (fun H locs hP hS => ?_)
      obtain ⟨σ220, e220⟩ : ∃ z : Rg, z = upd σ210 1 ((σ210 1) + (1 : Int32)) := ⟨_, rfl⟩
      have hP : va_P D vwCl (wS Ad cy σ220 μ195) H := by rw [e220]; exact hP
      have h := h σ220 e220
      exact wk_X4_handOver_223 C hap h hP hS (lv_sub hl [] rfl)
  · have h := h.2 hc
    refine lv_aload_n hx hb dX4_handOver_65 rfl (lv_at hl 0 rfl) ?_
    refine gS_store_reading C hP (C.2.2.2.2.2.2.1 _ wq_311) dX4_handOver_66 ?_
    refine lv_iload_n hx hb dX4_handOver_69 rfl (lv_at hl 3 rfl) ?_
    refine kWi (rnVN C (ct_X3_hasValue l D cy Ad hap h) yv_X3_hasValue wn_578 ⟨rfl, rfl⟩ ⟨Nat.le_of_ble_eq_true rfl, Nat.le_of_ble_eq_true rfl⟩ ⟨Nat.zero_le _, Nat.zero_le _⟩ (vS_reading C hP) hP hl.1 rfl rfl (Nat.le_of_ble_eq_true rfl) dX4_handOver_70) hS (fun _ h => h) (fun r70 σ70 μ70 H locs h hP hk hS => ?_)
    refine lv_if_ne (tgt := 79) hx hb dX4_handOver_73 (by decide) (fun hc => ?_) (fun hc => ?_)
    · have h := h.1 hc
      refine lv_aload_n hx hb dX4_handOver_79 rfl (lv_at hl 0 rfl) ?_
      refine gS_store_reading C hP (C.2.2.2.2.2.2.1 _ wq_311) dX4_handOver_80 ?_
      refine lv_aload_n hx hb dX4_handOver_83 rfl (lv_at hl 0 rfl) ?_
      refine gS_store_reading C hP (C.2.2.2.2.2.2.1 _ wq_311) dX4_handOver_84 ?_
      refine lv_iload_n hx hb dX4_handOver_87 rfl (lv_at hl 3 rfl) ?_
      refine kWi (rnVN C (ct_X3_newestOf l D cy Ad hap h) yv_X3_newestOf wn_579 ⟨rfl, rfl⟩ ⟨Nat.le_of_ble_eq_true rfl, Nat.le_of_ble_eq_true rfl⟩ ⟨Nat.zero_le _, Nat.zero_le _⟩ (vS_reading C hP) hP hl.1 rfl rfl (Nat.le_of_ble_eq_true rfl) dX4_handOver_88) hS (fun _ h => h) (fun r88 σ88 μ88 H locs h hP hk hS => ?_)
      refine kWl (rnVN C (ct_X3_valueOf l D cy Ad hap h) yv_X3_valueOf wn_580 ⟨rfl, rfl⟩ ⟨Nat.le_of_ble_eq_true rfl, Nat.le_of_ble_eq_true rfl⟩ ⟨Nat.zero_le _, Nat.zero_le _⟩ (vS_reading C hP) hP hl.1 rfl rfl (Nat.le_of_ble_eq_true rfl) dX4_handOver_91) hS (fun _ h => h) (fun r91 σ91 μ91 H locs h hP hk hS => ?_)
      refine lv_l2i hx hb dX4_handOver_94 rfl ?_
      refine lv_topi (fun y95 e95 => ?_)
      have h := h y95 e95
      refine lv_istore (lv' := [(4, .int y95), (0, .ref (Ad 0)), (1, .int v1), (2, .int v2), (3, .int v3)]) hx hb dX4_handOver_95 hl (by decide) rfl (fun ls hl => ?_)
      refine lv_iload_n hx hb dX4_handOver_97 rfl (lv_at hl 4 rfl) ?_
      refine lv_bipush (v := 32) hx hb dX4_handOver_98 (by decide) ?_
      refine lv_icmp_ge (tgt := 126) hx hb dX4_handOver_100 (by decide) (fun hc => ?_) (fun hc => ?_)
      · have h := h.1 hc
        refine lv_aload_n hx hb dX4_handOver_126 rfl (lv_at hl 1 rfl) ?_
        refine gS_store_draft C hP (C.2.2.2.2.2.2.1 _ wq_315) dX4_handOver_127 ?_
        refine lv_iload_n hx hb dX4_handOver_130 rfl (lv_at hl 4 rfl) ?_
        refine lv_iload hx hb dX4_handOver_131 (lv_at hl 0 rfl) ?_
        refine kWv (rnVN C (ct_X2_fillCounter l D cy Ad hap h) yv_X2_fillCounter wn_621 ⟨rfl, rfl⟩ ⟨Nat.le_of_ble_eq_true rfl, Nat.le_of_ble_eq_true rfl⟩ ⟨Nat.zero_le _, Nat.zero_le _⟩ (vS_draft C hP) hP hl.1 rfl rfl (Nat.le_of_ble_eq_true rfl) dX4_handOver_133) hS (fun _ h => h) (fun σ133 μ133 H locs h hP hk hS => ?_)
        exact wk_X4_handOver_136 C hap hk59 h hP hS (lv_sub hl [1, 2, 3, 4] rfl)
      · have h := h.2 hc
        refine lv_aload_n hx hb dX4_handOver_103 rfl (lv_at hl 1 rfl) ?_
        refine gS_store_draft C hP (C.2.2.2.2.2.2.1 _ wq_315) dX4_handOver_104 ?_
        refine lv_iload_n hx hb dX4_handOver_107 rfl (lv_at hl 4 rfl) ?_
        refine lv_bipush (v := 16) hx hb dX4_handOver_108 (by decide) ?_
        refine lv_iload hx hb dX4_handOver_110 (lv_at hl 0 rfl) ?_
        refine lv_aload_n hx hb dX4_handOver_112 rfl (lv_at hl 1 rfl) ?_
        refine gS_store_reading C hP (C.2.2.2.2.2.2.1 _ wq_311) dX4_handOver_113 ?_
        refine lv_iload_n hx hb dX4_handOver_116 rfl (lv_at hl 4 rfl) ?_
        refine kWi (rnVN C (ct_X3_newestLength l D cy Ad hap h) yv_X3_newestLength wn_600 ⟨rfl, rfl⟩ ⟨Nat.le_of_ble_eq_true rfl, Nat.le_of_ble_eq_true rfl⟩ ⟨Nat.zero_le _, Nat.zero_le _⟩ (vS_reading C hP) hP hl.1 rfl rfl (Nat.le_of_ble_eq_true rfl) dX4_handOver_117) hS (fun _ h => h) (fun r117 σ117 μ117 H locs h hP hk hS => ?_)
        refine kWv (rnVN C (ct_X2_fillSetting l D cy Ad hap h) yv_X2_fillSetting wn_604 ⟨rfl, rfl⟩ ⟨Nat.le_of_ble_eq_true rfl, Nat.le_of_ble_eq_true rfl⟩ ⟨Nat.zero_le _, Nat.zero_le _⟩ (vS_draft C hP) hP hl.1 rfl rfl (Nat.le_of_ble_eq_true rfl) dX4_handOver_120) hS (fun _ h => h) (fun σ120 μ120 H locs h hP hk hS => ?_)
        refine lv_goto (tgt := 136) hx hb dX4_handOver_123 (by decide) ?_
        exact wk_X4_handOver_136 C hap hk59 h hP hS (lv_sub hl [1, 2, 3, 4] rfl)
    · have h := h.2 hc
      refine lv_goto (tgt := 170) hx hb dX4_handOver_76 (by decide) ?_
      exact wk_X4_handOver_170 C hap hk59 h hP hS (lv_sub hl [0, 1, 2, 3] rfl)
def wl_X4_handOver_59 (Q : Rg → Ar → Prop) (n : Nat) : Rg → Ar → Int32 → Int32 → Int32 → Prop := Nat.rec (motive := fun _ => Rg → Ar → Int32 → Int32 → Int32 → Prop) (fun _ _ _ _ _ => False) (fun _ k => wb_X4_handOver_59 Q k) n
set_option maxHeartbeats 4000000 in
theorem wkl_X4_handOver_59 {p : Program} {l : Launch} {e : Env} {s : State} {m : MethodId} {args : Array Value} {below : List Frame} {meth : Method} {c : Code} {D : va_G} {cy : ClassId} {Ad : Nat → Nat} (C : Cx p s m args meth c RX4 cX4_handOver 5 (none : Option FieldType) D [(cy, .int)]) (hap : apt 18 Ad) {Q : Rg → Ar → Prop}  : ∀ (n : Nat) {σ : Rg} {μ : Ar} {v1 : Int32} {v2 : Int32} {v3 : Int32} {H : Heap} {locs : List Loc} {ls : Array Slot} (h : wl_X4_handOver_59 Q  n σ μ v1 v2 v3) (hP : va_P D vwCl (wS Ad cy σ μ) H) (hS : va_S (AS 18 Ad) s.heap H locs) (hl : lv_has ls 5 [(0, .ref (Ad 0)), (1, .int v1), (2, .int v2), (3, .int v3)]), W p l e rmX4_handOver s m args below meth c H locs 0 0 (MQ below (Qcg (PWv (wS Ad cy) D Q) (AS 18 Ad)) args s 0 0 (AS 18 Ad)) (F0 m 59 ls []) := by
  intro n
  induction n with
  | zero => intro σ μ v1 v2 v3 H locs ls h; exact h.elim
  | succ n ih =>
    intro σ μ v1 v2 v3 H locs ls h hP hS hl
    exact wk_X4_handOver_59 C hap (fun h hP hS hl => ih h hP hS hl) h hP hS hl
def wb_X4_handOver_31 (Q : Rg → Ar → Prop) (σ : Rg) (μ : Ar) (v1 : Int32) : Prop := wp_X1_numberOf σ μ (σ 0) (fun r44 σ44 μ44 => wp_X1_makeReady σ44 μ44 v1 ((r44 + (1 : Int32)) - (r44 + (1 : Int32)) / (65536 : Int32) * (65536 : Int32)) (fun σ52 μ52 => ∃ n, wl_X4_handOver_59 Q n σ52 μ52 v1 (4 : Int32) (0 : Int32)))
set_option maxHeartbeats 4000000 in
set_option maxRecDepth 100000 in
theorem wk_X4_handOver_31 {p : Program} {l : Launch} {e : Env} {s : State} {m : MethodId} {args : Array Value} {below : List Frame} {meth : Method} {c : Code} {D : va_G} {cy : ClassId} {Ad : Nat → Nat} (C : Cx p s m args meth c RX4 cX4_handOver 5 (none : Option FieldType) D [(cy, .int)]) (hap : apt 18 Ad) {Q : Rg → Ar → Prop} {σ : Rg} {μ : Ar} {v1 : Int32} {H : Heap} {locs : List Loc} {ls : Array Slot} (h : wb_X4_handOver_31 Q σ μ v1) (hP : va_P D vwCl (wS Ad cy σ μ) H) (hS : va_S (AS 18 Ad) s.heap H locs) (hl : lv_has ls 5 [(0, .ref (Ad 0)), (1, .int v1)]) : W p l e rmX4_handOver s m args below meth c H locs 0 0 (MQ below (Qcg (PWv (wS Ad cy) D Q) (AS 18 Ad)) args s 0 0 (AS 18 Ad)) (F0 m 31 ls []) := by
  have hx := C.1
  have hb := C.2.1
  refine lv_aload_n hx hb dX4_handOver_31 rfl (lv_at hl 0 rfl) ?_
  refine gS_store_chip C hP (C.2.2.2.2.2.2.1 _ wq_309) dX4_handOver_32 ?_
  refine lv_iload_n hx hb dX4_handOver_35 rfl (lv_at hl 1 rfl) ?_
  refine lv_aload_n hx hb dX4_handOver_36 rfl (lv_at hl 0 rfl) ?_
  refine gS_store_chip C hP (C.2.2.2.2.2.2.1 _ wq_309) dX4_handOver_37 ?_
  refine lv_aload_n hx hb dX4_handOver_40 rfl (lv_at hl 0 rfl) ?_
  refine gS_store_inUse C hP (C.2.2.2.2.2.2.1 _ wq_316) dX4_handOver_41 ?_
  refine kWi (rnVN C (ct_X1_numberOf l D cy Ad hap h) yv_X1_numberOf wn_576 ⟨rfl, rfl⟩ ⟨Nat.le_of_ble_eq_true rfl, Nat.le_of_ble_eq_true rfl⟩ ⟨Nat.zero_le _, Nat.zero_le _⟩ (vS_chip C hP) hP hl.1 rfl rfl (Nat.le_of_ble_eq_true rfl) dX4_handOver_44) hS (fun _ h => h) (fun r44 σ44 μ44 H locs h hP hk hS => ?_)
  refine lv_iconst (v := 1) hx hb dX4_handOver_47 (by decide) ?_
  refine lv_iadd hx hb dX4_handOver_48 ?_
  refine lv_ldc hx hb C.2.2.2.1 (C.2.2.2.2.2.2.1 _ wq_577) dX4_handOver_49 ?_
  refine lv_irem hx hb dX4_handOver_51 (by decide) ?_
  refine kWv (rnVN C (ct_X1_makeReady l D cy Ad hap h) yv_X1_makeReady wn_429 ⟨rfl, rfl⟩ ⟨Nat.le_of_ble_eq_true rfl, Nat.le_of_ble_eq_true rfl⟩ ⟨Nat.zero_le _, Nat.zero_le _⟩ (vS_chip C hP) hP hl.1 rfl rfl (Nat.le_of_ble_eq_true rfl) dX4_handOver_52) hS (fun _ h => h) (fun σ52 μ52 H locs h hP hk hS => ?_)
  refine lv_iconst (v := 4) hx hb dX4_handOver_55 (by decide) ?_
  refine lv_istore_n (lv' := [(2, .int (4 : Int32)), (0, .ref (Ad 0)), (1, .int v1)]) hx hb dX4_handOver_56 rfl hl (by decide) rfl (fun ls hl => ?_)
  refine lv_iconst (v := 0) hx hb dX4_handOver_57 (by decide) ?_
  refine lv_istore_n (lv' := [(3, .int (0 : Int32)), (2, .int (4 : Int32)), (0, .ref (Ad 0)), (1, .int v1)]) hx hb dX4_handOver_58 rfl hl (by decide) rfl (fun ls hl => ?_)
  obtain ⟨n, h⟩ := h
  exact wkl_X4_handOver_59 C hap n h hP hS (lv_sub hl [2, 3, 1, 0] rfl)
def wp_X4_handOver (σ : Rg) (μ : Ar) (Q : Rg → Ar → Prop) : Prop := wp_X1_leastErased σ μ (σ 0) (fun r8 σ8 μ8 => wp_X1_isBlank σ8 μ8 r8 (fun r17 σ17 μ17 => ((¬ r17 = 0 → wb_X4_handOver_31 Q σ17 μ17 r8) ∧ (r17 = 0 → wp_X1_erase σ17 μ17 r8 (fun σ28 μ28 => wb_X4_handOver_31 Q σ28 μ28 r8)))))
set_option maxHeartbeats 4000000 in
set_option maxRecDepth 100000 in
theorem ct_X4_handOver (l : Launch) (D : va_G) (cy : ClassId) (Ad : Nat → Nat) (hap : apt 18 Ad) {σ : Rg} {μ : Ar}  {Q : Rg → Ar → Prop} (h : wp_X4_handOver σ μ  Q) : Ct l yX4_handOver cX4_handOver 5 (none : Option FieldType) rmX4_handOver D [(cy, .int)] (fun H => va_P D vwCl (wS Ad cy σ μ) H) [.ref (Ad 0)] (AS 18 Ad) (PWv (wS Ad cy) D Q) := by
  refine Ct.of (by decide) (Nat.le_of_ble_eq_true rfl) ?_
  intro p e s m below meth c ls C hP hl
  have hl : lv_has ls 5 [(0, .ref (Ad 0))] := hl
  have hS : va_S (AS 18 Ad) s.heap s.heap [] := va_S.rf
  have hx := C.1
  have hb := C.2.1
  refine lv_aload_n hx hb dX4_handOver_0 rfl (lv_at hl 0 rfl) ?_
  refine gS_store_chip C hP (C.2.2.2.2.2.2.1 _ wq_309) dX4_handOver_1 ?_
  refine lv_aload_n hx hb dX4_handOver_4 rfl (lv_at hl 0 rfl) ?_
  refine gS_store_inUse C hP (C.2.2.2.2.2.2.1 _ wq_316) dX4_handOver_5 ?_
  refine kWi (rnVN C (ct_X1_leastErased l D cy Ad hap h) yv_X1_leastErased wn_421 ⟨rfl, rfl⟩ ⟨Nat.le_of_ble_eq_true rfl, Nat.le_of_ble_eq_true rfl⟩ ⟨Nat.zero_le _, Nat.zero_le _⟩ (vS_chip C hP) hP hl.1 rfl rfl (Nat.le_of_ble_eq_true rfl) dX4_handOver_8) hS (fun _ h => h) (fun r8 σ8 μ8 H locs h hP hk hS => ?_)
  refine lv_istore_n (lv' := [(1, .int r8), (0, .ref (Ad 0))]) hx hb dX4_handOver_11 rfl hl (by decide) rfl (fun ls hl => ?_)
  refine lv_aload_n hx hb dX4_handOver_12 rfl (lv_at hl 1 rfl) ?_
  refine gS_store_chip C hP (C.2.2.2.2.2.2.1 _ wq_309) dX4_handOver_13 ?_
  refine lv_iload_n hx hb dX4_handOver_16 rfl (lv_at hl 0 rfl) ?_
  refine kWi (rnVN C (ct_X1_isBlank l D cy Ad hap h) yv_X1_isBlank wn_574 ⟨rfl, rfl⟩ ⟨Nat.le_of_ble_eq_true rfl, Nat.le_of_ble_eq_true rfl⟩ ⟨Nat.zero_le _, Nat.zero_le _⟩ (vS_chip C hP) hP hl.1 rfl rfl (Nat.le_of_ble_eq_true rfl) dX4_handOver_17) hS (fun _ h => h) (fun r17 σ17 μ17 H locs h hP hk hS => ?_)
  refine lv_if_ne (tgt := 31) hx hb dX4_handOver_20 (by decide) (fun hc => ?_) (fun hc => ?_)
  · have h := h.1 hc
    exact wk_X4_handOver_31 C hap h hP hS (lv_sub hl [1, 0] rfl)
  · have h := h.2 hc
    refine lv_aload_n hx hb dX4_handOver_23 rfl (lv_at hl 1 rfl) ?_
    refine gS_store_chip C hP (C.2.2.2.2.2.2.1 _ wq_309) dX4_handOver_24 ?_
    refine lv_iload_n hx hb dX4_handOver_27 rfl (lv_at hl 0 rfl) ?_
    refine kWv (rnVN C (ct_X1_erase l D cy Ad hap h) yv_X1_erase wn_575 ⟨rfl, rfl⟩ ⟨Nat.le_of_ble_eq_true rfl, Nat.le_of_ble_eq_true rfl⟩ ⟨Nat.zero_le _, Nat.zero_le _⟩ (vS_chip C hP) hP hl.1 rfl rfl (Nat.le_of_ble_eq_true rfl) dX4_handOver_28) hS (fun _ h => h) (fun σ28 μ28 H locs h hP hk hS => ?_)
    exact wk_X4_handOver_31 C hap h hP hS (lv_sub hl [1, 0] rfl)
abbrev rmX4_makeRoom : Room := { frames := 4, cells := 0, slots := 0, locals := 97 }
def wb_X4_makeRoom_58 (Q : Int32 → Rg → Ar → Prop) (σ : Rg) (μ : Ar) : Prop := ∀ σ66 : Rg, σ66 = upd σ 2 (σ 13) → (Q (1 : Int32) σ66 μ)
set_option maxHeartbeats 4000000 in
set_option maxRecDepth 100000 in
theorem wk_X4_makeRoom_58 {p : Program} {l : Launch} {e : Env} {s : State} {m : MethodId} {args : Array Value} {below : List Frame} {meth : Method} {c : Code} {D : va_G} {cy : ClassId} {Ad : Nat → Nat} (C : Cx p s m args meth c RX4 cX4_makeRoom 2 (some FieldType.boolean) D [(cy, .int)]) (hap : apt 18 Ad) {Q : Int32 → Rg → Ar → Prop} {σ : Rg} {μ : Ar}  {H : Heap} {locs : List Loc} {ls : Array Slot} (h : wb_X4_makeRoom_58 Q σ μ) (hP : va_P D vwCl (wS Ad cy σ μ) H) (hS : va_S (AS 18 Ad) s.heap H locs) (hl : lv_has ls 2 [(0, .ref (Ad 0))]) : W p l e rmX4_makeRoom s m args below meth c H locs 0 0 (MQ below (Qcg (PWi (wS Ad cy) D Q) (AS 18 Ad)) args s 0 0 (AS 18 Ad)) (F0 m 58 ls []) := by
  have hx := C.1
  have hb := C.2.1
  refine lv_aload_n hx hb dX4_makeRoom_58 rfl (lv_at hl 0 rfl) ?_
  refine lv_aload_n hx hb dX4_makeRoom_59 rfl (lv_at hl 0 rfl) ?_
  refine gS_store_reading C hP (C.2.2.2.2.2.2.1 _ wq_311) dX4_makeRoom_60 ?_
  refine gnS_reading_free C hP (NW.use C.2.2.2.2.2.2.2.2 wn_227) dX4_makeRoom_63 ?_
  refine pS_store_pen C hap (fun _ h => h) hP hS (C.2.2.2.2.2.2.1 _ wq_320) dX4_makeRoom_66 (fun H locs hP hS => ?_)
  obtain ⟨σ66, e66⟩ : ∃ z : Rg, z = upd σ 2 (σ 13) := ⟨_, rfl⟩
  have hP : va_P D vwCl (wS Ad cy σ66 μ) H := by rw [e66]; exact hP
  have h := h σ66 e66
  refine lv_iconst (v := 1) hx hb dX4_makeRoom_69 (by decide) ?_
  exact endZ C hS bz1 ⟨_, _, _, rfl, h, hP⟩ dX4_makeRoom_70
def wp_X4_makeRoom (σ : Rg) (μ : Ar) (x1 : Int32) (Q : Int32 → Rg → Ar → Prop) : Prop := wp_X3_scan σ μ (σ 0) (fun σ12 μ12 => wp_X3_freeBytes σ12 μ12  (fun r19 σ19 μ19 => ((x1 ≤ r19 → wb_X4_makeRoom_58 Q σ19 μ19) ∧ (¬ x1 ≤ r19 → wp_X3_freeBehindHandover σ19 μ19  (fun r30 σ30 μ30 => ((x1 ≤ r30 → wp_X4_handOver σ30 μ30  (fun σ40 μ40 => wp_X3_scan σ40 μ40 (σ40 0) (fun σ55 μ55 => wb_X4_makeRoom_58 Q σ55 μ55))) ∧ (¬ x1 ≤ r30 → Q (0 : Int32) σ30 μ30)))))))
set_option maxHeartbeats 4000000 in
set_option maxRecDepth 100000 in
theorem ct_X4_makeRoom (l : Launch) (D : va_G) (cy : ClassId) (Ad : Nat → Nat) (hap : apt 18 Ad) {σ : Rg} {μ : Ar} {x1 : Int32} {Q : Int32 → Rg → Ar → Prop} (h : wp_X4_makeRoom σ μ x1 Q) : Ct l yX4_makeRoom cX4_makeRoom 2 (some FieldType.boolean) rmX4_makeRoom D [(cy, .int)] (fun H => va_P D vwCl (wS Ad cy σ μ) H) [.ref (Ad 0), .int x1] (AS 18 Ad) (PWi (wS Ad cy) D Q) := by
  refine Ct.of (by decide) (Nat.le_of_ble_eq_true rfl) ?_
  intro p e s m below meth c ls C hP hl
  have hl : lv_has ls 2 [(0, .ref (Ad 0)), (1, .int x1)] := hl
  have hS : va_S (AS 18 Ad) s.heap s.heap [] := va_S.rf
  have hx := C.1
  have hb := C.2.1
  refine lv_aload_n hx hb dX4_makeRoom_0 rfl (lv_at hl 0 rfl) ?_
  refine gS_store_reading C hP (C.2.2.2.2.2.2.1 _ wq_311) dX4_makeRoom_1 ?_
  refine lv_aload_n hx hb dX4_makeRoom_4 rfl (lv_at hl 0 rfl) ?_
  refine gS_store_chip C hP (C.2.2.2.2.2.2.1 _ wq_309) dX4_makeRoom_5 ?_
  refine lv_aload_n hx hb dX4_makeRoom_8 rfl (lv_at hl 0 rfl) ?_
  refine gS_store_inUse C hP (C.2.2.2.2.2.2.1 _ wq_316) dX4_makeRoom_9 ?_
  refine kWv (rnVN C (ct_X3_scan l D cy Ad hap h) yv_X3_scan wn_442 ⟨rfl, rfl⟩ ⟨Nat.le_of_ble_eq_true rfl, Nat.le_of_ble_eq_true rfl⟩ ⟨Nat.zero_le _, Nat.zero_le _⟩ (vS_reading C hP) hP hl.1 rfl rfl (Nat.le_of_ble_eq_true rfl) dX4_makeRoom_12) hS (fun _ h => h) (fun σ12 μ12 H locs h hP hk hS => ?_)
  refine lv_aload_n hx hb dX4_makeRoom_15 rfl (lv_at hl 0 rfl) ?_
  refine gS_store_reading C hP (C.2.2.2.2.2.2.1 _ wq_311) dX4_makeRoom_16 ?_
  refine kWi (rnVN C (ct_X3_freeBytes l D cy Ad hap h) yv_X3_freeBytes wn_558 ⟨rfl, rfl⟩ ⟨Nat.le_of_ble_eq_true rfl, Nat.le_of_ble_eq_true rfl⟩ ⟨Nat.zero_le _, Nat.zero_le _⟩ (vS_reading C hP) hP hl.1 rfl rfl (Nat.le_of_ble_eq_true rfl) dX4_makeRoom_19) hS (fun _ h => h) (fun r19 σ19 μ19 H locs h hP hk hS => ?_)
  refine lv_iload_n hx hb dX4_makeRoom_22 rfl (lv_at hl 1 rfl) ?_
  refine lv_icmp_ge (tgt := 58) hx hb dX4_makeRoom_23 (by decide) (fun hc => ?_) (fun hc => ?_)
  · have h := h.1 hc
    exact wk_X4_makeRoom_58 C hap h hP hS (lv_sub hl [0] rfl)
  · have h := h.2 hc
    refine lv_aload_n hx hb dX4_makeRoom_26 rfl (lv_at hl 0 rfl) ?_
    refine gS_store_reading C hP (C.2.2.2.2.2.2.1 _ wq_311) dX4_makeRoom_27 ?_
    refine kWi (rnVN C (ct_X3_freeBehindHandover l D cy Ad hap h) yv_X3_freeBehindHandover wn_562 ⟨rfl, rfl⟩ ⟨Nat.le_of_ble_eq_true rfl, Nat.le_of_ble_eq_true rfl⟩ ⟨Nat.zero_le _, Nat.zero_le _⟩ (vS_reading C hP) hP hl.1 rfl rfl (Nat.le_of_ble_eq_true rfl) dX4_makeRoom_30) hS (fun _ h => h) (fun r30 σ30 μ30 H locs h hP hk hS => ?_)
    refine lv_iload_n hx hb dX4_makeRoom_33 rfl (lv_at hl 1 rfl) ?_
    refine lv_icmp_ge (tgt := 39) hx hb dX4_makeRoom_34 (by decide) (fun hc => ?_) (fun hc => ?_)
    · have h := h.1 hc
      refine lv_aload_n hx hb dX4_makeRoom_39 rfl (lv_at hl 0 rfl) ?_
      refine kWv (rnV C (ct_X4_handOver l D cy Ad hap h) yv_X4_handOver wq_570 ⟨rfl, rfl⟩ ⟨Nat.le_of_ble_eq_true rfl, Nat.le_of_ble_eq_true rfl⟩ ⟨Nat.zero_le _, Nat.zero_le _⟩ (vS_store C hP) hP hl.1 rfl rfl (Nat.le_of_ble_eq_true rfl) dX4_makeRoom_40) hS (fun _ h => h) (fun σ40 μ40 H locs h hP hk hS => ?_)
      refine lv_aload_n hx hb dX4_makeRoom_43 rfl (lv_at hl 0 rfl) ?_
      refine gS_store_reading C hP (C.2.2.2.2.2.2.1 _ wq_311) dX4_makeRoom_44 ?_
      refine lv_aload_n hx hb dX4_makeRoom_47 rfl (lv_at hl 0 rfl) ?_
      refine gS_store_chip C hP (C.2.2.2.2.2.2.1 _ wq_309) dX4_makeRoom_48 ?_
      refine lv_aload_n hx hb dX4_makeRoom_51 rfl (lv_at hl 0 rfl) ?_
      refine gS_store_inUse C hP (C.2.2.2.2.2.2.1 _ wq_316) dX4_makeRoom_52 ?_
      refine kWv (rnVN C (ct_X3_scan l D cy Ad hap h) yv_X3_scan wn_442 ⟨rfl, rfl⟩ ⟨Nat.le_of_ble_eq_true rfl, Nat.le_of_ble_eq_true rfl⟩ ⟨Nat.zero_le _, Nat.zero_le _⟩ (vS_reading C hP) hP hl.1 rfl rfl (Nat.le_of_ble_eq_true rfl) dX4_makeRoom_55) hS (fun _ h => h) (fun σ55 μ55 H locs h hP hk hS => ?_)
      exact wk_X4_makeRoom_58 C hap h hP hS (lv_sub hl [0] rfl)
    · have h := h.2 hc
      refine lv_iconst (v := 0) hx hb dX4_makeRoom_37 (by decide) ?_
      exact endZ C hS bz0 ⟨_, _, _, rfl, h, hP⟩ dX4_makeRoom_38
abbrev rmX4_keep : Room := { frames := 5, cells := 0, slots := 0, locals := 118 }
def wp_X4_keep (σ : Rg) (μ : Ar) (x1 : Int32) (x2 : Int32) (x3 : Int32) (Q : Int32 → Rg → Ar → Prop) : Prop := ∀ σ5 : Rg, σ5 = upd σ 6 (0 : Int32) → (wp_X4_makeRoom σ5 μ ((3 : Int32) + x3) (fun r12 σ12 μ12 => ((¬ r12 = 0 → wp_X2_fillSetting σ12 μ12 x1 (16 : Int32) x2 x3 (fun σ30 μ30 => wp_X1_writeDraft σ30 μ30 (σ30 0) (σ30 2) (fun σ49 μ49 => wp_X4_outcome σ49 μ49 (σ49 6) (fun r60 σ60 μ60 => Q r60 σ60 μ60)))) ∧ (r12 = 0 → Q (-2 : Int32) σ12 μ12))))
set_option maxHeartbeats 4000000 in
set_option maxRecDepth 100000 in
theorem ct_X4_keep (l : Launch) (D : va_G) (cy : ClassId) (Ad : Nat → Nat) (hap : apt 18 Ad) {σ : Rg} {μ : Ar} {x1 : Int32} {x2 : Int32} {x3 : Int32} {Q : Int32 → Rg → Ar → Prop} (h : wp_X4_keep σ μ x1 x2 x3 Q) : Ct l yX4_keep cX4_keep 4 (some FieldType.int) rmX4_keep D [(cy, .int)] (fun H => va_P D vwCl (wS Ad cy σ μ) H) [.ref (Ad 0), .int x1, .int x2, .int x3] (AS 18 Ad) (PWi (wS Ad cy) D Q) := by
  refine Ct.of (by decide) (Nat.le_of_ble_eq_true rfl) ?_
  intro p e s m below meth c ls C hP hl
  have hl : lv_has ls 4 [(0, .ref (Ad 0)), (1, .int x1), (2, .int x2), (3, .int x3)] := hl
  have hS : va_S (AS 18 Ad) s.heap s.heap [] := va_S.rf
  have hx := C.1
  have hb := C.2.1
  refine lv_aload_n hx hb dX4_keep_0 rfl (lv_at hl 0 rfl) ?_
  refine gS_store_chip C hP (C.2.2.2.2.2.2.1 _ wq_309) dX4_keep_1 ?_
  refine lv_iconst (v := 0) hx hb dX4_keep_4 (by decide) ?_
  refine pnS_chip_doings C hap (fun _ h => h) hP hS (NW.use C.2.2.2.2.2.2.2.2 wn_179) dX4_keep_5 (fun H locs hP hS => ?_)
  obtain ⟨σ5, e5⟩ : ∃ z : Rg, z = upd σ 6 (0 : Int32) := ⟨_, rfl⟩
  have hP : va_P D vwCl (wS Ad cy σ5 μ) H := by rw [e5]; exact hP
  have h := h σ5 e5
  refine lv_aload_n hx hb dX4_keep_8 rfl (lv_at hl 0 rfl) ?_
  refine lv_iconst (v := 3) hx hb dX4_keep_9 (by decide) ?_
  refine lv_iload_n hx hb dX4_keep_10 rfl (lv_at hl 3 rfl) ?_
  refine lv_iadd hx hb dX4_keep_11 ?_
  refine kWi (rnV C (ct_X4_makeRoom l D cy Ad hap h) yv_X4_makeRoom wq_554 ⟨rfl, rfl⟩ ⟨Nat.le_of_ble_eq_true rfl, Nat.le_of_ble_eq_true rfl⟩ ⟨Nat.zero_le _, Nat.zero_le _⟩ (vS_store C hP) hP hl.1 rfl rfl (Nat.le_of_ble_eq_true rfl) dX4_keep_12) hS (fun _ h => h) (fun r12 σ12 μ12 H locs h hP hk hS => ?_)
  refine lv_if_ne (tgt := 21) hx hb dX4_keep_15 (by decide) (fun hc => ?_) (fun hc => ?_)
  · have h := h.1 hc
    refine lv_aload_n hx hb dX4_keep_21 rfl (lv_at hl 0 rfl) ?_
    refine gS_store_draft C hP (C.2.2.2.2.2.2.1 _ wq_315) dX4_keep_22 ?_
    refine lv_iload_n hx hb dX4_keep_25 rfl (lv_at hl 1 rfl) ?_
    refine lv_bipush (v := 16) hx hb dX4_keep_26 (by decide) ?_
    refine lv_iload_n hx hb dX4_keep_28 rfl (lv_at hl 2 rfl) ?_
    refine lv_iload_n hx hb dX4_keep_29 rfl (lv_at hl 3 rfl) ?_
    refine kWv (rnVN C (ct_X2_fillSetting l D cy Ad hap h) yv_X2_fillSetting wn_604 ⟨rfl, rfl⟩ ⟨Nat.le_of_ble_eq_true rfl, Nat.le_of_ble_eq_true rfl⟩ ⟨Nat.zero_le _, Nat.zero_le _⟩ (vS_draft C hP) hP hl.1 rfl rfl (Nat.le_of_ble_eq_true rfl) dX4_keep_30) hS (fun _ h => h) (fun σ30 μ30 H locs h hP hk hS => ?_)
    refine lv_aload_n hx hb dX4_keep_33 rfl (lv_at hl 0 rfl) ?_
    refine gS_store_chip C hP (C.2.2.2.2.2.2.1 _ wq_309) dX4_keep_34 ?_
    refine lv_aload_n hx hb dX4_keep_37 rfl (lv_at hl 0 rfl) ?_
    refine gS_store_inUse C hP (C.2.2.2.2.2.2.1 _ wq_316) dX4_keep_38 ?_
    refine lv_aload_n hx hb dX4_keep_41 rfl (lv_at hl 0 rfl) ?_
    refine gS_store_pen C hP (C.2.2.2.2.2.2.1 _ wq_320) dX4_keep_42 ?_
    refine lv_aload_n hx hb dX4_keep_45 rfl (lv_at hl 0 rfl) ?_
    refine gS_store_draft C hP (C.2.2.2.2.2.2.1 _ wq_315) dX4_keep_46 ?_
    refine kWv (rnVN C (ct_X1_writeDraft l D cy Ad hap h) yv_X1_writeDraft wn_625 ⟨rfl, rfl⟩ ⟨Nat.le_of_ble_eq_true rfl, Nat.le_of_ble_eq_true rfl⟩ ⟨Nat.zero_le _, Nat.zero_le _⟩ (vS_chip C hP) hP hl.1 rfl rfl (Nat.le_of_ble_eq_true rfl) dX4_keep_49) hS (fun _ h => h) (fun σ49 μ49 H locs h hP hk hS => ?_)
    refine lv_aload_n hx hb dX4_keep_52 rfl (lv_at hl 0 rfl) ?_
    refine lv_aload_n hx hb dX4_keep_53 rfl (lv_at hl 0 rfl) ?_
    refine gS_store_chip C hP (C.2.2.2.2.2.2.1 _ wq_309) dX4_keep_54 ?_
    refine gnS_chip_doings C hP (NW.use C.2.2.2.2.2.2.2.2 wn_179) dX4_keep_57 ?_
    refine kWi (rnV C (ct_X4_outcome l D cy Ad hap h) yv_X4_outcome wq_509 ⟨rfl, rfl⟩ ⟨Nat.le_of_ble_eq_true rfl, Nat.le_of_ble_eq_true rfl⟩ ⟨Nat.zero_le _, Nat.zero_le _⟩ (vS_store C hP) hP hl.1 rfl rfl (Nat.le_of_ble_eq_true rfl) dX4_keep_60) hS (fun _ h => h) (fun r60 σ60 μ60 H locs h hP hk hS => ?_)
    exact endI C hS ⟨_, _, _, rfl, h, hP⟩ dX4_keep_63
  · have h := h.2 hc
    refine lv_bipush (v := -2) hx hb dX4_keep_18 (by decide) ?_
    exact endI C hS ⟨_, _, _, rfl, h, hP⟩ dX4_keep_20
abbrev rmX4_countUp : Room := { frames := 5, cells := 0, slots := 0, locals := 118 }
def wb_X4_countUp_39 (Q : Int32 → Rg → Ar → Prop) (σ : Rg) (μ : Ar) (v1 : Int32) (t0 : Int32) : Prop := ((t0 < (16777215 : Int32) → wp_X3_unspentPlace σ μ v1 (fun r53 σ53 μ53 => ((r53 = (-1 : Int32) → wp_X4_makeRoom σ53 μ53 (14 : Int32) (fun r107 σ107 μ107 => ((¬ r107 = 0 → wp_X2_fillCounter σ107 μ107 v1 (t0 + (1 : Int32)) (fun σ124 μ124 => wp_X1_writeDraft σ124 μ124 (σ124 0) (σ124 2) (fun σ143 μ143 => wp_X4_outcome σ143 μ143 (t0 + (1 : Int32)) (fun r150 σ150 μ150 => Q r150 σ150 μ150)))) ∧ (r107 = 0 → Q (-2 : Int32) σ107 μ107)))) ∧ (¬ r53 = (-1 : Int32) → wp_X1_peek σ53 μ53 (σ53 0) r53 (fun r71 σ71 μ71 => wp_X4_highestBit r71 (fun r89 => wp_X1_write σ71 μ71 (σ71 0) r53 (r71 ^^^ r89) (fun σ93 μ93 => wp_X4_outcome σ93 μ93 (t0 + (1 : Int32)) (fun r100 σ100 μ100 => Q r100 σ100 μ100)))))))) ∧ (¬ t0 < (16777215 : Int32) → Q (-1 : Int32) σ μ))
set_option maxHeartbeats 4000000 in
set_option maxRecDepth 100000 in
theorem wk_X4_countUp_39 {p : Program} {l : Launch} {e : Env} {s : State} {m : MethodId} {args : Array Value} {below : List Frame} {meth : Method} {c : Code} {D : va_G} {cy : ClassId} {Ad : Nat → Nat} (C : Cx p s m args meth c RX4 cX4_countUp 5 (some FieldType.int) D [(cy, .int)]) (hap : apt 18 Ad) {Q : Int32 → Rg → Ar → Prop} {σ : Rg} {μ : Ar} {v1 : Int32} {t0 : Int32} {H : Heap} {locs : List Loc} {ls : Array Slot} (h : wb_X4_countUp_39 Q σ μ v1 t0) (hP : va_P D vwCl (wS Ad cy σ μ) H) (hS : va_S (AS 18 Ad) s.heap H locs) (hl : lv_has ls 5 [(0, .ref (Ad 0)), (1, .int v1)]) : W p l e rmX4_countUp s m args below meth c H locs 0 0 (MQ below (Qcg (PWi (wS Ad cy) D Q) (AS 18 Ad)) args s 0 0 (AS 18 Ad)) (F0 m 39 ls [.int t0]) := by
  have hx := C.1
  have hb := C.2.1
  refine lv_istore_n (lv' := [(2, .int t0), (0, .ref (Ad 0)), (1, .int v1)]) hx hb dX4_countUp_39 rfl hl (by decide) rfl (fun ls hl => ?_)
  refine lv_iload_n hx hb dX4_countUp_40 rfl (lv_at hl 0 rfl) ?_
  refine lv_ldc hx hb C.2.2.2.1 (C.2.2.2.2.2.2.1 _ wq_651) dX4_countUp_41 ?_
  refine lv_icmp_lt (tgt := 48) hx hb dX4_countUp_43 (by decide) (fun hc => ?_) (fun hc => ?_)
  · have h := h.1 hc
    refine lv_aload_n hx hb dX4_countUp_48 rfl (lv_at hl 1 rfl) ?_
    refine gS_store_reading C hP (C.2.2.2.2.2.2.1 _ wq_311) dX4_countUp_49 ?_
    refine lv_iload_n hx hb dX4_countUp_52 rfl (lv_at hl 2 rfl) ?_
    refine kWi (rnVN C (ct_X3_unspentPlace l D cy Ad hap h) yv_X3_unspentPlace wn_652 ⟨rfl, rfl⟩ ⟨Nat.le_of_ble_eq_true rfl, Nat.le_of_ble_eq_true rfl⟩ ⟨Nat.zero_le _, Nat.zero_le _⟩ (vS_reading C hP) hP hl.1 rfl rfl (Nat.le_of_ble_eq_true rfl) dX4_countUp_53) hS (fun _ h => h) (fun r53 σ53 μ53 H locs h hP hk hS => ?_)
    refine lv_istore_n (lv' := [(3, .int r53), (2, .int t0), (0, .ref (Ad 0)), (1, .int v1)]) hx hb dX4_countUp_56 rfl hl (by decide) rfl (fun ls hl => ?_)
    refine lv_iload_n hx hb dX4_countUp_57 rfl (lv_at hl 0 rfl) ?_
    refine lv_iconst (v := -1) hx hb dX4_countUp_58 (by decide) ?_
    refine lv_icmp_eq (tgt := 104) hx hb dX4_countUp_59 (by decide) (fun hc => ?_) (fun hc => ?_)
    · have h := h.1 hc
      refine lv_aload_n hx hb dX4_countUp_104 rfl (lv_at hl 2 rfl) ?_
      refine lv_bipush (v := 14) hx hb dX4_countUp_105 (by decide) ?_
      refine kWi (rnV C (ct_X4_makeRoom l D cy Ad hap h) yv_X4_makeRoom wq_554 ⟨rfl, rfl⟩ ⟨Nat.le_of_ble_eq_true rfl, Nat.le_of_ble_eq_true rfl⟩ ⟨Nat.zero_le _, Nat.zero_le _⟩ (vS_store C hP) hP hl.1 rfl rfl (Nat.le_of_ble_eq_true rfl) dX4_countUp_107) hS (fun _ h => h) (fun r107 σ107 μ107 H locs h hP hk hS => ?_)
      refine lv_if_ne (tgt := 116) hx hb dX4_countUp_110 (by decide) (fun hc => ?_) (fun hc => ?_)
      · have h := h.1 hc
        refine lv_aload_n hx hb dX4_countUp_116 rfl (lv_at hl 2 rfl) ?_
        refine gS_store_draft C hP (C.2.2.2.2.2.2.1 _ wq_315) dX4_countUp_117 ?_
        refine lv_iload_n hx hb dX4_countUp_120 rfl (lv_at hl 3 rfl) ?_
        refine lv_iload_n hx hb dX4_countUp_121 rfl (lv_at hl 1 rfl) ?_
        refine lv_iconst (v := 1) hx hb dX4_countUp_122 (by decide) ?_
        refine lv_iadd hx hb dX4_countUp_123 ?_
        refine kWv (rnVN C (ct_X2_fillCounter l D cy Ad hap h) yv_X2_fillCounter wn_621 ⟨rfl, rfl⟩ ⟨Nat.le_of_ble_eq_true rfl, Nat.le_of_ble_eq_true rfl⟩ ⟨Nat.zero_le _, Nat.zero_le _⟩ (vS_draft C hP) hP hl.1 rfl rfl (Nat.le_of_ble_eq_true rfl) dX4_countUp_124) hS (fun _ h => h) (fun σ124 μ124 H locs h hP hk hS => ?_)
        refine lv_aload_n hx hb dX4_countUp_127 rfl (lv_at hl 2 rfl) ?_
        refine gS_store_chip C hP (C.2.2.2.2.2.2.1 _ wq_309) dX4_countUp_128 ?_
        refine lv_aload_n hx hb dX4_countUp_131 rfl (lv_at hl 2 rfl) ?_
        refine gS_store_inUse C hP (C.2.2.2.2.2.2.1 _ wq_316) dX4_countUp_132 ?_
        refine lv_aload_n hx hb dX4_countUp_135 rfl (lv_at hl 2 rfl) ?_
        refine gS_store_pen C hP (C.2.2.2.2.2.2.1 _ wq_320) dX4_countUp_136 ?_
        refine lv_aload_n hx hb dX4_countUp_139 rfl (lv_at hl 2 rfl) ?_
        refine gS_store_draft C hP (C.2.2.2.2.2.2.1 _ wq_315) dX4_countUp_140 ?_
        refine kWv (rnVN C (ct_X1_writeDraft l D cy Ad hap h) yv_X1_writeDraft wn_625 ⟨rfl, rfl⟩ ⟨Nat.le_of_ble_eq_true rfl, Nat.le_of_ble_eq_true rfl⟩ ⟨Nat.zero_le _, Nat.zero_le _⟩ (vS_chip C hP) hP hl.1 rfl rfl (Nat.le_of_ble_eq_true rfl) dX4_countUp_143) hS (fun _ h => h) (fun σ143 μ143 H locs h hP hk hS => ?_)
        refine lv_aload_n hx hb dX4_countUp_146 rfl (lv_at hl 2 rfl) ?_
        refine lv_iload_n hx hb dX4_countUp_147 rfl (lv_at hl 1 rfl) ?_
        refine lv_iconst (v := 1) hx hb dX4_countUp_148 (by decide) ?_
        refine lv_iadd hx hb dX4_countUp_149 ?_
        refine kWi (rnV C (ct_X4_outcome l D cy Ad hap h) yv_X4_outcome wq_509 ⟨rfl, rfl⟩ ⟨Nat.le_of_ble_eq_true rfl, Nat.le_of_ble_eq_true rfl⟩ ⟨Nat.zero_le _, Nat.zero_le _⟩ (vS_store C hP) hP hl.1 rfl rfl (Nat.le_of_ble_eq_true rfl) dX4_countUp_150) hS (fun _ h => h) (fun r150 σ150 μ150 H locs h hP hk hS => ?_)
        exact endI C hS ⟨_, _, _, rfl, h, hP⟩ dX4_countUp_153
      · have h := h.2 hc
        refine lv_bipush (v := -2) hx hb dX4_countUp_113 (by decide) ?_
        exact endI C hS ⟨_, _, _, rfl, h, hP⟩ dX4_countUp_115
    · have h := h.2 hc
      refine lv_aload_n hx hb dX4_countUp_62 rfl (lv_at hl 2 rfl) ?_
      refine gS_store_chip C hP (C.2.2.2.2.2.2.1 _ wq_309) dX4_countUp_63 ?_
      refine lv_aload_n hx hb dX4_countUp_66 rfl (lv_at hl 2 rfl) ?_
      refine gS_store_inUse C hP (C.2.2.2.2.2.2.1 _ wq_316) dX4_countUp_67 ?_
      refine lv_iload_n hx hb dX4_countUp_70 rfl (lv_at hl 0 rfl) ?_
      refine kWi (rnVN C (ct_X1_peek l D cy Ad hap h) yv_X1_peek wn_656 ⟨rfl, rfl⟩ ⟨Nat.le_of_ble_eq_true rfl, Nat.le_of_ble_eq_true rfl⟩ ⟨Nat.zero_le _, Nat.zero_le _⟩ (vS_chip C hP) hP hl.1 rfl rfl (Nat.le_of_ble_eq_true rfl) dX4_countUp_71) hS (fun _ h => h) (fun r71 σ71 μ71 H locs h hP hk hS => ?_)
      refine lv_istore (lv' := [(4, .int r71), (3, .int r53), (2, .int t0), (0, .ref (Ad 0)), (1, .int v1)]) hx hb dX4_countUp_74 hl (by decide) rfl (fun ls hl => ?_)
      refine lv_aload_n hx hb dX4_countUp_76 rfl (lv_at hl 3 rfl) ?_
      refine gS_store_chip C hP (C.2.2.2.2.2.2.1 _ wq_309) dX4_countUp_77 ?_
      refine lv_aload_n hx hb dX4_countUp_80 rfl (lv_at hl 3 rfl) ?_
      refine gS_store_inUse C hP (C.2.2.2.2.2.2.1 _ wq_316) dX4_countUp_81 ?_
      refine lv_iload_n hx hb dX4_countUp_84 rfl (lv_at hl 1 rfl) ?_
      refine lv_iload hx hb dX4_countUp_85 (lv_at hl 0 rfl) ?_
      refine lv_iload hx hb dX4_countUp_87 (lv_at hl 0 rfl) ?_
      refine kNi (rnS (C.none) (ct_X4_highestBit l D h) ys_X4_highestBit wq_657 ⟨rfl, rfl⟩ ⟨Nat.le_of_ble_eq_true rfl, Nat.le_of_ble_eq_true rfl⟩ ⟨Nat.zero_le _, Nat.zero_le _⟩ trivial hl.1 rfl rfl (Nat.le_of_ble_eq_true rfl) dX4_countUp_89) hS (fun _ h => h.elim) (fun r89 H locs h hk hS => ?_)
      have hP := keepN hP hk
      refine lv_ixor hx hb dX4_countUp_92 ?_
      refine kWv (rnVN C (ct_X1_write l D cy Ad hap h) yv_X1_write wn_437 ⟨rfl, rfl⟩ ⟨Nat.le_of_ble_eq_true rfl, Nat.le_of_ble_eq_true rfl⟩ ⟨Nat.zero_le _, Nat.zero_le _⟩ (vS_chip C hP) hP hl.1 rfl rfl (Nat.le_of_ble_eq_true rfl) dX4_countUp_93) hS (fun _ h => h) (fun σ93 μ93 H locs h hP hk hS => ?_)
      refine lv_aload_n hx hb dX4_countUp_96 rfl (lv_at hl 3 rfl) ?_
      refine lv_iload_n hx hb dX4_countUp_97 rfl (lv_at hl 2 rfl) ?_
      refine lv_iconst (v := 1) hx hb dX4_countUp_98 (by decide) ?_
      refine lv_iadd hx hb dX4_countUp_99 ?_
      refine kWi (rnV C (ct_X4_outcome l D cy Ad hap h) yv_X4_outcome wq_509 ⟨rfl, rfl⟩ ⟨Nat.le_of_ble_eq_true rfl, Nat.le_of_ble_eq_true rfl⟩ ⟨Nat.zero_le _, Nat.zero_le _⟩ (vS_store C hP) hP hl.1 rfl rfl (Nat.le_of_ble_eq_true rfl) dX4_countUp_100) hS (fun _ h => h) (fun r100 σ100 μ100 H locs h hP hk hS => ?_)
      exact endI C hS ⟨_, _, _, rfl, h, hP⟩ dX4_countUp_103
  · have h := h.2 hc
    refine lv_iconst (v := -1) hx hb dX4_countUp_46 (by decide) ?_
    exact endI C hS ⟨_, _, _, rfl, h, hP⟩ dX4_countUp_47
def wp_X4_countUp (σ : Rg) (μ : Ar) (x1 : Int32) (Q : Int32 → Rg → Ar → Prop) : Prop := wp_X3_scan σ μ (σ 0) (fun σ12 μ12 => wp_X3_hasValue σ12 μ12 x1 (fun r20 σ20 μ20 => ((r20 = 0 → wb_X4_countUp_39 Q σ20 μ20 x1 (0 : Int32)) ∧ (¬ r20 = 0 → wp_X3_newestValue σ20 μ20 x1 (fun r31 σ31 μ31 => wb_X4_countUp_39 Q σ31 μ31 x1 (r31).toInt32)))))
set_option maxHeartbeats 4000000 in
set_option maxRecDepth 100000 in
theorem ct_X4_countUp (l : Launch) (D : va_G) (cy : ClassId) (Ad : Nat → Nat) (hap : apt 18 Ad) {σ : Rg} {μ : Ar} {x1 : Int32} {Q : Int32 → Rg → Ar → Prop} (h : wp_X4_countUp σ μ x1 Q) : Ct l yX4_countUp cX4_countUp 5 (some FieldType.int) rmX4_countUp D [(cy, .int)] (fun H => va_P D vwCl (wS Ad cy σ μ) H) [.ref (Ad 0), .int x1] (AS 18 Ad) (PWi (wS Ad cy) D Q) := by
  refine Ct.of (by decide) (Nat.le_of_ble_eq_true rfl) ?_
  intro p e s m below meth c ls C hP hl
  have hl : lv_has ls 5 [(0, .ref (Ad 0)), (1, .int x1)] := hl
  have hS : va_S (AS 18 Ad) s.heap s.heap [] := va_S.rf
  have hx := C.1
  have hb := C.2.1
  refine lv_aload_n hx hb dX4_countUp_0 rfl (lv_at hl 0 rfl) ?_
  refine gS_store_reading C hP (C.2.2.2.2.2.2.1 _ wq_311) dX4_countUp_1 ?_
  refine lv_aload_n hx hb dX4_countUp_4 rfl (lv_at hl 0 rfl) ?_
  refine gS_store_chip C hP (C.2.2.2.2.2.2.1 _ wq_309) dX4_countUp_5 ?_
  refine lv_aload_n hx hb dX4_countUp_8 rfl (lv_at hl 0 rfl) ?_
  refine gS_store_inUse C hP (C.2.2.2.2.2.2.1 _ wq_316) dX4_countUp_9 ?_
  refine kWv (rnVN C (ct_X3_scan l D cy Ad hap h) yv_X3_scan wn_442 ⟨rfl, rfl⟩ ⟨Nat.le_of_ble_eq_true rfl, Nat.le_of_ble_eq_true rfl⟩ ⟨Nat.zero_le _, Nat.zero_le _⟩ (vS_reading C hP) hP hl.1 rfl rfl (Nat.le_of_ble_eq_true rfl) dX4_countUp_12) hS (fun _ h => h) (fun σ12 μ12 H locs h hP hk hS => ?_)
  refine lv_aload_n hx hb dX4_countUp_15 rfl (lv_at hl 0 rfl) ?_
  refine gS_store_reading C hP (C.2.2.2.2.2.2.1 _ wq_311) dX4_countUp_16 ?_
  refine lv_iload_n hx hb dX4_countUp_19 rfl (lv_at hl 1 rfl) ?_
  refine kWi (rnVN C (ct_X3_hasValue l D cy Ad hap h) yv_X3_hasValue wn_578 ⟨rfl, rfl⟩ ⟨Nat.le_of_ble_eq_true rfl, Nat.le_of_ble_eq_true rfl⟩ ⟨Nat.zero_le _, Nat.zero_le _⟩ (vS_reading C hP) hP hl.1 rfl rfl (Nat.le_of_ble_eq_true rfl) dX4_countUp_20) hS (fun _ h => h) (fun r20 σ20 μ20 H locs h hP hk hS => ?_)
  refine lv_if_eq (tgt := 38) hx hb dX4_countUp_23 (by decide) (fun hc => ?_) (fun hc => ?_)
  · have h := h.1 hc
    refine lv_iconst (v := 0) hx hb dX4_countUp_38 (by decide) ?_
    exact wk_X4_countUp_39 C hap h hP hS (lv_sub hl [0, 1] rfl)
  · have h := h.2 hc
    refine lv_aload_n hx hb dX4_countUp_26 rfl (lv_at hl 0 rfl) ?_
    refine gS_store_reading C hP (C.2.2.2.2.2.2.1 _ wq_311) dX4_countUp_27 ?_
    refine lv_iload_n hx hb dX4_countUp_30 rfl (lv_at hl 1 rfl) ?_
    refine kWl (rnVN C (ct_X3_newestValue l D cy Ad hap h) yv_X3_newestValue wn_646 ⟨rfl, rfl⟩ ⟨Nat.le_of_ble_eq_true rfl, Nat.le_of_ble_eq_true rfl⟩ ⟨Nat.zero_le _, Nat.zero_le _⟩ (vS_reading C hP) hP hl.1 rfl rfl (Nat.le_of_ble_eq_true rfl) dX4_countUp_31) hS (fun _ h => h) (fun r31 σ31 μ31 H locs h hP hk hS => ?_)
    refine lv_l2i hx hb dX4_countUp_34 rfl ?_
    refine lv_goto (tgt := 39) hx hb dX4_countUp_35 (by decide) ?_
    exact wk_X4_countUp_39 C hap h hP hS (lv_sub hl [0, 1] rfl)
abbrev rmX4_writeChange : Room := { frames := 5, cells := 0, slots := 0, locals := 118 }
def wb_X4_writeChange_27 (Q : Int32 → Rg → Ar → Prop) (k27 : Rg → Ar → Int32 → Prop) (σ : Rg) (μ : Ar) (v1 : Int32) : Prop := (((σ 16) ≤ v1 → wp_X2_fillCommit σ μ (σ 16) (fun σ126 μ126 => wp_X1_writeDraft σ126 μ126 (σ126 0) (σ126 2) (fun σ145 μ145 => wp_X0_forget σ145 μ145  (fun σ152 μ152 => wp_X4_outcome σ152 μ152 (σ152 6) (fun r163 σ163 μ163 => Q r163 σ163 μ163))))) ∧ (¬ (σ 16) ≤ v1 → (vp_in v1 8) ∧ ((vp_in v1 8) ∧ ((vp_in v1 8) ∧ (wp_X2_fillSetting σ μ (μ 9 (v1).toNatClampNeg) (48 : Int32) (μ 10 (v1).toNatClampNeg) (μ 11 (v1).toNatClampNeg) (fun σ71 μ71 => wp_X1_writeDraft σ71 μ71 (σ71 0) (σ71 2) (fun σ90 μ90 => ∀ σ106 : Rg, σ106 = upd σ90 2 ((σ90 2) + (σ90 17)) → (∀ y109 : Int32, y109 = v1 + (1 : Int32) → (k27 σ106 μ90 y109)))))))))
set_option maxHeartbeats 4000000 in
set_option maxRecDepth 100000 in
theorem wk_X4_writeChange_27 {p : Program} {l : Launch} {e : Env} {s : State} {m : MethodId} {args : Array Value} {below : List Frame} {meth : Method} {c : Code} {D : va_G} {cy : ClassId} {Ad : Nat → Nat} (C : Cx p s m args meth c RX4 cX4_writeChange 2 (some FieldType.int) D [(cy, .int)]) (hap : apt 18 Ad) {Q : Int32 → Rg → Ar → Prop} {k27 : Rg → Ar → Int32 → Prop} (hk27 : ∀ {σ : Rg} {μ : Ar} {v1 : Int32} {H : Heap} {locs : List Loc} {ls : Array Slot}, k27 σ μ v1 → va_P D vwCl (wS Ad cy σ μ) H → va_S (AS 18 Ad) s.heap H locs → lv_has ls 2 [(0, .ref (Ad 0)), (1, .int v1)] → W p l e rmX4_writeChange s m args below meth c H locs 0 0 (MQ below (Qcg (PWi (wS Ad cy) D Q) (AS 18 Ad)) args s 0 0 (AS 18 Ad)) (F0 m 27 ls [])) {σ : Rg} {μ : Ar} {v1 : Int32} {H : Heap} {locs : List Loc} {ls : Array Slot} (h : wb_X4_writeChange_27 Q k27 σ μ v1) (hP : va_P D vwCl (wS Ad cy σ μ) H) (hS : va_S (AS 18 Ad) s.heap H locs) (hl : lv_has ls 2 [(0, .ref (Ad 0)), (1, .int v1)]) : W p l e rmX4_writeChange s m args below meth c H locs 0 0 (MQ below (Qcg (PWi (wS Ad cy) D Q) (AS 18 Ad)) args s 0 0 (AS 18 Ad)) (F0 m 27 ls []) := by
  have hx := C.1
  have hb := C.2.1
  refine lv_iload_n hx hb dX4_writeChange_27 rfl (lv_at hl 1 rfl) ?_
  refine lv_aload_n hx hb dX4_writeChange_28 rfl (lv_at hl 0 rfl) ?_
  refine gS_store_change C hP (C.2.2.2.2.2.2.1 _ wq_313) dX4_writeChange_29 ?_
  refine gnS_change_told C hP (NW.use C.2.2.2.2.2.2.2.2 wn_271) dX4_writeChange_32 ?_
  refine lv_icmp_ge (tgt := 115) hx hb dX4_writeChange_35 (by decide) (fun hc => ?_) (fun hc => ?_)
  · have h := h.1 hc
    refine lv_aload_n hx hb dX4_writeChange_115 rfl (lv_at hl 0 rfl) ?_
    refine gS_store_draft C hP (C.2.2.2.2.2.2.1 _ wq_315) dX4_writeChange_116 ?_
    refine lv_aload_n hx hb dX4_writeChange_119 rfl (lv_at hl 0 rfl) ?_
    refine gS_store_change C hP (C.2.2.2.2.2.2.1 _ wq_313) dX4_writeChange_120 ?_
    refine gnS_change_told C hP (NW.use C.2.2.2.2.2.2.2.2 wn_271) dX4_writeChange_123 ?_
    refine kWv (rnVN C (ct_X2_fillCommit l D cy Ad hap h) yv_X2_fillCommit wn_681 ⟨rfl, rfl⟩ ⟨Nat.le_of_ble_eq_true rfl, Nat.le_of_ble_eq_true rfl⟩ ⟨Nat.zero_le _, Nat.zero_le _⟩ (vS_draft C hP) hP hl.1 rfl rfl (Nat.le_of_ble_eq_true rfl) dX4_writeChange_126) hS (fun _ h => h) (fun σ126 μ126 H locs h hP hk hS => ?_)
    refine lv_aload_n hx hb dX4_writeChange_129 rfl (lv_at hl 0 rfl) ?_
    refine gS_store_chip C hP (C.2.2.2.2.2.2.1 _ wq_309) dX4_writeChange_130 ?_
    refine lv_aload_n hx hb dX4_writeChange_133 rfl (lv_at hl 0 rfl) ?_
    refine gS_store_inUse C hP (C.2.2.2.2.2.2.1 _ wq_316) dX4_writeChange_134 ?_
    refine lv_aload_n hx hb dX4_writeChange_137 rfl (lv_at hl 0 rfl) ?_
    refine gS_store_pen C hP (C.2.2.2.2.2.2.1 _ wq_320) dX4_writeChange_138 ?_
    refine lv_aload_n hx hb dX4_writeChange_141 rfl (lv_at hl 0 rfl) ?_
    refine gS_store_draft C hP (C.2.2.2.2.2.2.1 _ wq_315) dX4_writeChange_142 ?_
    refine kWv (rnVN C (ct_X1_writeDraft l D cy Ad hap h) yv_X1_writeDraft wn_625 ⟨rfl, rfl⟩ ⟨Nat.le_of_ble_eq_true rfl, Nat.le_of_ble_eq_true rfl⟩ ⟨Nat.zero_le _, Nat.zero_le _⟩ (vS_chip C hP) hP hl.1 rfl rfl (Nat.le_of_ble_eq_true rfl) dX4_writeChange_145) hS (fun _ h => h) (fun σ145 μ145 H locs h hP hk hS => ?_)
    refine lv_aload_n hx hb dX4_writeChange_148 rfl (lv_at hl 0 rfl) ?_
    refine gS_store_change C hP (C.2.2.2.2.2.2.1 _ wq_313) dX4_writeChange_149 ?_
    refine kWv (rnVN C (ct_X0_forget l D cy Ad hap h) yv_X0_forget wn_358 ⟨rfl, rfl⟩ ⟨Nat.le_of_ble_eq_true rfl, Nat.le_of_ble_eq_true rfl⟩ ⟨Nat.zero_le _, Nat.zero_le _⟩ (vS_change C hP) hP hl.1 rfl rfl (Nat.le_of_ble_eq_true rfl) dX4_writeChange_152) hS (fun _ h => h) (fun σ152 μ152 H locs h hP hk hS => ?_)
    refine lv_aload_n hx hb dX4_writeChange_155 rfl (lv_at hl 0 rfl) ?_
    refine lv_aload_n hx hb dX4_writeChange_156 rfl (lv_at hl 0 rfl) ?_
    refine gS_store_chip C hP (C.2.2.2.2.2.2.1 _ wq_309) dX4_writeChange_157 ?_
    refine gnS_chip_doings C hP (NW.use C.2.2.2.2.2.2.2.2 wn_179) dX4_writeChange_160 ?_
    refine kWi (rnV C (ct_X4_outcome l D cy Ad hap h) yv_X4_outcome wq_509 ⟨rfl, rfl⟩ ⟨Nat.le_of_ble_eq_true rfl, Nat.le_of_ble_eq_true rfl⟩ ⟨Nat.zero_le _, Nat.zero_le _⟩ (vS_store C hP) hP hl.1 rfl rfl (Nat.le_of_ble_eq_true rfl) dX4_writeChange_163) hS (fun _ h => h) (fun r163 σ163 μ163 H locs h hP hk hS => ?_)
    exact endI C hS ⟨_, _, _, rfl, h, hP⟩ dX4_writeChange_166
  · have h := h.2 hc
    refine lv_aload_n hx hb dX4_writeChange_38 rfl (lv_at hl 0 rfl) ?_
    refine gS_store_draft C hP (C.2.2.2.2.2.2.1 _ wq_315) dX4_writeChange_39 ?_
    refine lv_aload_n hx hb dX4_writeChange_42 rfl (lv_at hl 0 rfl) ?_
    refine gS_store_change C hP (C.2.2.2.2.2.2.1 _ wq_313) dX4_writeChange_43 ?_
    refine gnS_change_labels C hP (NW.use C.2.2.2.2.2.2.2.2 wn_261) dX4_writeChange_46 ?_
    refine lv_iload_n hx hb dX4_writeChange_49 rfl (lv_at hl 1 rfl) ?_
    obtain ⟨hc, h⟩ := h
    refine lS_9 C hP hc dX4_writeChange_50 ?_
    refine lv_bipush (v := 48) hx hb dX4_writeChange_51 (by decide) ?_
    refine lv_aload_n hx hb dX4_writeChange_53 rfl (lv_at hl 0 rfl) ?_
    refine gS_store_change C hP (C.2.2.2.2.2.2.1 _ wq_313) dX4_writeChange_54 ?_
    refine gnS_change_values C hP (NW.use C.2.2.2.2.2.2.2.2 wn_263) dX4_writeChange_57 ?_
    refine lv_iload_n hx hb dX4_writeChange_60 rfl (lv_at hl 1 rfl) ?_
    obtain ⟨hc, h⟩ := h
    refine lS_10 C hP hc dX4_writeChange_61 ?_
    refine lv_aload_n hx hb dX4_writeChange_62 rfl (lv_at hl 0 rfl) ?_
    refine gS_store_change C hP (C.2.2.2.2.2.2.1 _ wq_313) dX4_writeChange_63 ?_
    refine gnS_change_lengths C hP (NW.use C.2.2.2.2.2.2.2.2 wn_265) dX4_writeChange_66 ?_
    refine lv_iload_n hx hb dX4_writeChange_69 rfl (lv_at hl 1 rfl) ?_
    obtain ⟨hc, h⟩ := h
    refine lS_11 C hP hc dX4_writeChange_70 ?_
    refine kWv (rnVN C (ct_X2_fillSetting l D cy Ad hap h) yv_X2_fillSetting wn_604 ⟨rfl, rfl⟩ ⟨Nat.le_of_ble_eq_true rfl, Nat.le_of_ble_eq_true rfl⟩ ⟨Nat.zero_le _, Nat.zero_le _⟩ (vS_draft C hP) hP hl.1 rfl rfl (Nat.le_of_ble_eq_true rfl) dX4_writeChange_71) hS (fun _ h => h) (fun σ71 μ71 H locs h hP hk hS => ?_)
    refine lv_aload_n hx hb dX4_writeChange_74 rfl (lv_at hl 0 rfl) ?_
    refine gS_store_chip C hP (C.2.2.2.2.2.2.1 _ wq_309) dX4_writeChange_75 ?_
    refine lv_aload_n hx hb dX4_writeChange_78 rfl (lv_at hl 0 rfl) ?_
    refine gS_store_inUse C hP (C.2.2.2.2.2.2.1 _ wq_316) dX4_writeChange_79 ?_
    refine lv_aload_n hx hb dX4_writeChange_82 rfl (lv_at hl 0 rfl) ?_
    refine gS_store_pen C hP (C.2.2.2.2.2.2.1 _ wq_320) dX4_writeChange_83 ?_
    refine lv_aload_n hx hb dX4_writeChange_86 rfl (lv_at hl 0 rfl) ?_
    refine gS_store_draft C hP (C.2.2.2.2.2.2.1 _ wq_315) dX4_writeChange_87 ?_
    refine kWv (rnVN C (ct_X1_writeDraft l D cy Ad hap h) yv_X1_writeDraft wn_625 ⟨rfl, rfl⟩ ⟨Nat.le_of_ble_eq_true rfl, Nat.le_of_ble_eq_true rfl⟩ ⟨Nat.zero_le _, Nat.zero_le _⟩ (vS_chip C hP) hP hl.1 rfl rfl (Nat.le_of_ble_eq_true rfl) dX4_writeChange_90) hS (fun _ h => h) (fun σ90 μ90 H locs h hP hk hS => ?_)
    refine lv_aload_n hx hb dX4_writeChange_93 rfl (lv_at hl 0 rfl) ?_
    refine lv_dup hx hb dX4_writeChange_94 rfl ?_
    refine gS_store_pen C hP (C.2.2.2.2.2.2.1 _ wq_320) dX4_writeChange_95 ?_
    refine lv_aload_n hx hb dX4_writeChange_98 rfl (lv_at hl 0 rfl) ?_
    refine gS_store_draft C hP (C.2.2.2.2.2.2.1 _ wq_315) dX4_writeChange_99 ?_
    refine gnS_draft_used C hP (NW.use C.2.2.2.2.2.2.2.2 wn_293) dX4_writeChange_102 ?_
    refine lv_iadd hx hb dX4_writeChange_105 ?_
    refine pS_store_pen C hap (fun _ h => h) hP hS (C.2.2.2.2.2.2.1 _ wq_320) dX4_writeChange_106 (fun H locs hP hS => ?_)
    obtain ⟨σ106, e106⟩ : ∃ z : Rg, z = upd σ90 2 ((σ90 2) + (σ90 17)) := ⟨_, rfl⟩
    have hP : va_P D vwCl (wS Ad cy σ106 μ90) H := by rw [e106]; exact hP
    have h := h σ106 e106
    obtain ⟨y109, e109⟩ : ∃ y : Int32, y = v1 + (1 : Int32) := ⟨_, rfl⟩
    have h := h y109 e109
    refine lv_iinc (v := y109) (lv' := [(1, .int y109), (0, .ref (Ad 0))]) hx hb dX4_writeChange_109 hl (k := 1) rfl (by rw [e109]; rfl) (by decide) rfl (fun ls hl => ?_)
    refine lv_goto (tgt := 27) hx hb dX4_writeChange_112 (by decide) ?_
    exact hk27 h hP hS (lv_sub hl [1, 0] rfl)
def wl_X4_writeChange_27 (Q : Int32 → Rg → Ar → Prop) (n : Nat) : Rg → Ar → Int32 → Prop := Nat.rec (motive := fun _ => Rg → Ar → Int32 → Prop) (fun _ _ _ => False) (fun _ k => wb_X4_writeChange_27 Q k) n
set_option maxHeartbeats 4000000 in
theorem wkl_X4_writeChange_27 {p : Program} {l : Launch} {e : Env} {s : State} {m : MethodId} {args : Array Value} {below : List Frame} {meth : Method} {c : Code} {D : va_G} {cy : ClassId} {Ad : Nat → Nat} (C : Cx p s m args meth c RX4 cX4_writeChange 2 (some FieldType.int) D [(cy, .int)]) (hap : apt 18 Ad) {Q : Int32 → Rg → Ar → Prop}  : ∀ (n : Nat) {σ : Rg} {μ : Ar} {v1 : Int32} {H : Heap} {locs : List Loc} {ls : Array Slot} (h : wl_X4_writeChange_27 Q  n σ μ v1) (hP : va_P D vwCl (wS Ad cy σ μ) H) (hS : va_S (AS 18 Ad) s.heap H locs) (hl : lv_has ls 2 [(0, .ref (Ad 0)), (1, .int v1)]), W p l e rmX4_writeChange s m args below meth c H locs 0 0 (MQ below (Qcg (PWi (wS Ad cy) D Q) (AS 18 Ad)) args s 0 0 (AS 18 Ad)) (F0 m 27 ls []) := by
  intro n
  induction n with
  | zero => intro σ μ v1 H locs ls h; exact h.elim
  | succ n ih =>
    intro σ μ v1 H locs ls h hP hS hl
    exact wk_X4_writeChange_27 C hap (fun h hP hS hl => ih h hP hS hl) h hP hS hl
def wp_X4_writeChange (σ : Rg) (μ : Ar) (Q : Int32 → Rg → Ar → Prop) : Prop := ∀ σ5 : Rg, σ5 = upd σ 6 (0 : Int32) → (wp_X0_bytesToWrite σ5 μ  (fun r13 σ13 μ13 => wp_X4_makeRoom σ13 μ13 r13 (fun r16 σ16 μ16 => ((¬ r16 = 0 → ∃ n, wl_X4_writeChange_27 Q n σ16 μ16 (0 : Int32)) ∧ (r16 = 0 → Q (-2 : Int32) σ16 μ16)))))
set_option maxHeartbeats 4000000 in
set_option maxRecDepth 100000 in
theorem ct_X4_writeChange (l : Launch) (D : va_G) (cy : ClassId) (Ad : Nat → Nat) (hap : apt 18 Ad) {σ : Rg} {μ : Ar}  {Q : Int32 → Rg → Ar → Prop} (h : wp_X4_writeChange σ μ  Q) : Ct l yX4_writeChange cX4_writeChange 2 (some FieldType.int) rmX4_writeChange D [(cy, .int)] (fun H => va_P D vwCl (wS Ad cy σ μ) H) [.ref (Ad 0)] (AS 18 Ad) (PWi (wS Ad cy) D Q) := by
  refine Ct.of (by decide) (Nat.le_of_ble_eq_true rfl) ?_
  intro p e s m below meth c ls C hP hl
  have hl : lv_has ls 2 [(0, .ref (Ad 0))] := hl
  have hS : va_S (AS 18 Ad) s.heap s.heap [] := va_S.rf
  have hx := C.1
  have hb := C.2.1
  refine lv_aload_n hx hb dX4_writeChange_0 rfl (lv_at hl 0 rfl) ?_
  refine gS_store_chip C hP (C.2.2.2.2.2.2.1 _ wq_309) dX4_writeChange_1 ?_
  refine lv_iconst (v := 0) hx hb dX4_writeChange_4 (by decide) ?_
  refine pnS_chip_doings C hap (fun _ h => h) hP hS (NW.use C.2.2.2.2.2.2.2.2 wn_179) dX4_writeChange_5 (fun H locs hP hS => ?_)
  obtain ⟨σ5, e5⟩ : ∃ z : Rg, z = upd σ 6 (0 : Int32) := ⟨_, rfl⟩
  have hP : va_P D vwCl (wS Ad cy σ5 μ) H := by rw [e5]; exact hP
  have h := h σ5 e5
  refine lv_aload_n hx hb dX4_writeChange_8 rfl (lv_at hl 0 rfl) ?_
  refine lv_aload_n hx hb dX4_writeChange_9 rfl (lv_at hl 0 rfl) ?_
  refine gS_store_change C hP (C.2.2.2.2.2.2.1 _ wq_313) dX4_writeChange_10 ?_
  refine kWi (rnVN C (ct_X0_bytesToWrite l D cy Ad hap h) yv_X0_bytesToWrite wn_677 ⟨rfl, rfl⟩ ⟨Nat.le_of_ble_eq_true rfl, Nat.le_of_ble_eq_true rfl⟩ ⟨Nat.zero_le _, Nat.zero_le _⟩ (vS_change C hP) hP hl.1 rfl rfl (Nat.le_of_ble_eq_true rfl) dX4_writeChange_13) hS (fun _ h => h) (fun r13 σ13 μ13 H locs h hP hk hS => ?_)
  refine kWi (rnV C (ct_X4_makeRoom l D cy Ad hap h) yv_X4_makeRoom wq_554 ⟨rfl, rfl⟩ ⟨Nat.le_of_ble_eq_true rfl, Nat.le_of_ble_eq_true rfl⟩ ⟨Nat.zero_le _, Nat.zero_le _⟩ (vS_store C hP) hP hl.1 rfl rfl (Nat.le_of_ble_eq_true rfl) dX4_writeChange_16) hS (fun _ h => h) (fun r16 σ16 μ16 H locs h hP hk hS => ?_)
  refine lv_if_ne (tgt := 25) hx hb dX4_writeChange_19 (by decide) (fun hc => ?_) (fun hc => ?_)
  · have h := h.1 hc
    refine lv_iconst (v := 0) hx hb dX4_writeChange_25 (by decide) ?_
    refine lv_istore_n (lv' := [(1, .int (0 : Int32)), (0, .ref (Ad 0))]) hx hb dX4_writeChange_26 rfl hl (by decide) rfl (fun ls hl => ?_)
    obtain ⟨n, h⟩ := h
    exact wkl_X4_writeChange_27 C hap n h hP hS (lv_sub hl [1, 0] rfl)
  · have h := h.2 hc
    refine lv_bipush (v := -2) hx hb dX4_writeChange_22 (by decide) ?_
    exact endI C hS ⟨_, _, _, rfl, h, hP⟩ dX4_writeChange_24
abbrev rmX4_handOverByHand : Room := { frames := 4, cells := 0, slots := 0, locals := 97 }
def wp_X4_handOverByHand (σ : Rg) (μ : Ar) (Q : Int32 → Rg → Ar → Prop) : Prop := ∀ σ5 : Rg, σ5 = upd σ 6 (0 : Int32) → (wp_X3_scan σ5 μ (σ5 0) (fun σ20 μ20 => wp_X4_handOver σ20 μ20  (fun σ24 μ24 => wp_X4_outcome σ24 μ24 (σ24 6) (fun r35 σ35 μ35 => Q r35 σ35 μ35))))
set_option maxHeartbeats 4000000 in
set_option maxRecDepth 100000 in
theorem ct_X4_handOverByHand (l : Launch) (D : va_G) (cy : ClassId) (Ad : Nat → Nat) (hap : apt 18 Ad) {σ : Rg} {μ : Ar}  {Q : Int32 → Rg → Ar → Prop} (h : wp_X4_handOverByHand σ μ  Q) : Ct l yX4_handOverByHand cX4_handOverByHand 1 (some FieldType.int) rmX4_handOverByHand D [(cy, .int)] (fun H => va_P D vwCl (wS Ad cy σ μ) H) [.ref (Ad 0)] (AS 18 Ad) (PWi (wS Ad cy) D Q) := by
  refine Ct.of (by decide) (Nat.le_of_ble_eq_true rfl) ?_
  intro p e s m below meth c ls C hP hl
  have hl : lv_has ls 1 [(0, .ref (Ad 0))] := hl
  have hS : va_S (AS 18 Ad) s.heap s.heap [] := va_S.rf
  have hx := C.1
  have hb := C.2.1
  refine lv_aload_n hx hb dX4_handOverByHand_0 rfl (lv_at hl 0 rfl) ?_
  refine gS_store_chip C hP (C.2.2.2.2.2.2.1 _ wq_309) dX4_handOverByHand_1 ?_
  refine lv_iconst (v := 0) hx hb dX4_handOverByHand_4 (by decide) ?_
  refine pnS_chip_doings C hap (fun _ h => h) hP hS (NW.use C.2.2.2.2.2.2.2.2 wn_179) dX4_handOverByHand_5 (fun H locs hP hS => ?_)
  obtain ⟨σ5, e5⟩ : ∃ z : Rg, z = upd σ 6 (0 : Int32) := ⟨_, rfl⟩
  have hP : va_P D vwCl (wS Ad cy σ5 μ) H := by rw [e5]; exact hP
  have h := h σ5 e5
  refine lv_aload_n hx hb dX4_handOverByHand_8 rfl (lv_at hl 0 rfl) ?_
  refine gS_store_reading C hP (C.2.2.2.2.2.2.1 _ wq_311) dX4_handOverByHand_9 ?_
  refine lv_aload_n hx hb dX4_handOverByHand_12 rfl (lv_at hl 0 rfl) ?_
  refine gS_store_chip C hP (C.2.2.2.2.2.2.1 _ wq_309) dX4_handOverByHand_13 ?_
  refine lv_aload_n hx hb dX4_handOverByHand_16 rfl (lv_at hl 0 rfl) ?_
  refine gS_store_inUse C hP (C.2.2.2.2.2.2.1 _ wq_316) dX4_handOverByHand_17 ?_
  refine kWv (rnVN C (ct_X3_scan l D cy Ad hap h) yv_X3_scan wn_442 ⟨rfl, rfl⟩ ⟨Nat.le_of_ble_eq_true rfl, Nat.le_of_ble_eq_true rfl⟩ ⟨Nat.zero_le _, Nat.zero_le _⟩ (vS_reading C hP) hP hl.1 rfl rfl (Nat.le_of_ble_eq_true rfl) dX4_handOverByHand_20) hS (fun _ h => h) (fun σ20 μ20 H locs h hP hk hS => ?_)
  refine lv_aload_n hx hb dX4_handOverByHand_23 rfl (lv_at hl 0 rfl) ?_
  refine kWv (rnV C (ct_X4_handOver l D cy Ad hap h) yv_X4_handOver wq_570 ⟨rfl, rfl⟩ ⟨Nat.le_of_ble_eq_true rfl, Nat.le_of_ble_eq_true rfl⟩ ⟨Nat.zero_le _, Nat.zero_le _⟩ (vS_store C hP) hP hl.1 rfl rfl (Nat.le_of_ble_eq_true rfl) dX4_handOverByHand_24) hS (fun _ h => h) (fun σ24 μ24 H locs h hP hk hS => ?_)
  refine lv_aload_n hx hb dX4_handOverByHand_27 rfl (lv_at hl 0 rfl) ?_
  refine lv_aload_n hx hb dX4_handOverByHand_28 rfl (lv_at hl 0 rfl) ?_
  refine gS_store_chip C hP (C.2.2.2.2.2.2.1 _ wq_309) dX4_handOverByHand_29 ?_
  refine gnS_chip_doings C hP (NW.use C.2.2.2.2.2.2.2.2 wn_179) dX4_handOverByHand_32 ?_
  refine kWi (rnV C (ct_X4_outcome l D cy Ad hap h) yv_X4_outcome wq_509 ⟨rfl, rfl⟩ ⟨Nat.le_of_ble_eq_true rfl, Nat.le_of_ble_eq_true rfl⟩ ⟨Nat.zero_le _, Nat.zero_le _⟩ (vS_store C hP) hP hl.1 rfl rfl (Nat.le_of_ble_eq_true rfl) dX4_handOverByHand_35) hS (fun _ h => h) (fun r35 σ35 μ35 H locs h hP hk hS => ?_)
  exact endI C hS ⟨_, _, _, rfl, h, hP⟩ dX4_handOverByHand_38
abbrev rmX4_handoverDoings : Room := { frames := 4, cells := 0, slots := 0, locals := 86 }
def wb_X4_handoverDoings_26 (Q : Int32 → Rg → Ar → Prop) (σ : Rg) (μ : Ar) (t0 : Int32) : Prop := wp_X3_copyWrites σ μ  (fun r36 σ36 μ36 => Q (((t0 + (5 : Int32)) + r36) + (1 : Int32)) σ36 μ36)
set_option maxHeartbeats 4000000 in
set_option maxRecDepth 100000 in
theorem wk_X4_handoverDoings_26 {p : Program} {l : Launch} {e : Env} {s : State} {m : MethodId} {args : Array Value} {below : List Frame} {meth : Method} {c : Code} {D : va_G} {cy : ClassId} {Ad : Nat → Nat} (C : Cx p s m args meth c RX4 cX4_handoverDoings 3 (some FieldType.int) D [(cy, .int)]) (hap : apt 18 Ad) {Q : Int32 → Rg → Ar → Prop} {σ : Rg} {μ : Ar} {t0 : Int32} {H : Heap} {locs : List Loc} {ls : Array Slot} (h : wb_X4_handoverDoings_26 Q σ μ t0) (hP : va_P D vwCl (wS Ad cy σ μ) H) (hS : va_S (AS 18 Ad) s.heap H locs) (hl : lv_has ls 3 [(0, .ref (Ad 0))]) : W p l e rmX4_handoverDoings s m args below meth c H locs 0 0 (MQ below (Qcg (PWi (wS Ad cy) D Q) (AS 18 Ad)) args s 0 0 (AS 18 Ad)) (F0 m 26 ls [.int t0]) := by
  have hx := C.1
  have hb := C.2.1
  refine lv_istore_n (lv' := [(1, .int t0), (0, .ref (Ad 0))]) hx hb dX4_handoverDoings_26 rfl hl (by decide) rfl (fun ls hl => ?_)
  refine lv_iconst (v := 5) hx hb dX4_handoverDoings_27 (by decide) ?_
  refine lv_istore_n (lv' := [(2, .int (5 : Int32)), (1, .int t0), (0, .ref (Ad 0))]) hx hb dX4_handoverDoings_28 rfl hl (by decide) rfl (fun ls hl => ?_)
  refine lv_iload_n hx hb dX4_handoverDoings_29 rfl (lv_at hl 1 rfl) ?_
  refine lv_iload_n hx hb dX4_handoverDoings_30 rfl (lv_at hl 0 rfl) ?_
  refine lv_iadd hx hb dX4_handoverDoings_31 ?_
  refine lv_aload_n hx hb dX4_handoverDoings_32 rfl (lv_at hl 2 rfl) ?_
  refine gS_store_reading C hP (C.2.2.2.2.2.2.1 _ wq_311) dX4_handoverDoings_33 ?_
  refine kWi (rnVN C (ct_X3_copyWrites l D cy Ad hap h) yv_X3_copyWrites wn_759 ⟨rfl, rfl⟩ ⟨Nat.le_of_ble_eq_true rfl, Nat.le_of_ble_eq_true rfl⟩ ⟨Nat.zero_le _, Nat.zero_le _⟩ (vS_reading C hP) hP hl.1 rfl rfl (Nat.le_of_ble_eq_true rfl) dX4_handoverDoings_36) hS (fun _ h => h) (fun r36 σ36 μ36 H locs h hP hk hS => ?_)
  refine lv_iadd hx hb dX4_handoverDoings_39 ?_
  refine lv_iconst (v := 1) hx hb dX4_handoverDoings_40 (by decide) ?_
  refine lv_iadd hx hb dX4_handoverDoings_41 ?_
  exact endI C hS ⟨_, _, _, rfl, h, hP⟩ dX4_handoverDoings_42
def wp_X4_handoverDoings (σ : Rg) (μ : Ar) (Q : Int32 → Rg → Ar → Prop) : Prop := wp_X1_leastErased σ μ (σ 0) (fun r12 σ12 μ12 => wp_X1_isBlank σ12 μ12 r12 (fun r15 σ15 μ15 => ((r15 = 0 → wb_X4_handoverDoings_26 Q σ15 μ15 (1 : Int32)) ∧ (¬ r15 = 0 → wb_X4_handoverDoings_26 Q σ15 μ15 (0 : Int32)))))
set_option maxHeartbeats 4000000 in
set_option maxRecDepth 100000 in
theorem ct_X4_handoverDoings (l : Launch) (D : va_G) (cy : ClassId) (Ad : Nat → Nat) (hap : apt 18 Ad) {σ : Rg} {μ : Ar}  {Q : Int32 → Rg → Ar → Prop} (h : wp_X4_handoverDoings σ μ  Q) : Ct l yX4_handoverDoings cX4_handoverDoings 3 (some FieldType.int) rmX4_handoverDoings D [(cy, .int)] (fun H => va_P D vwCl (wS Ad cy σ μ) H) [.ref (Ad 0)] (AS 18 Ad) (PWi (wS Ad cy) D Q) := by
  refine Ct.of (by decide) (Nat.le_of_ble_eq_true rfl) ?_
  intro p e s m below meth c ls C hP hl
  have hl : lv_has ls 3 [(0, .ref (Ad 0))] := hl
  have hS : va_S (AS 18 Ad) s.heap s.heap [] := va_S.rf
  have hx := C.1
  have hb := C.2.1
  refine lv_aload_n hx hb dX4_handoverDoings_0 rfl (lv_at hl 0 rfl) ?_
  refine gS_store_chip C hP (C.2.2.2.2.2.2.1 _ wq_309) dX4_handoverDoings_1 ?_
  refine lv_aload_n hx hb dX4_handoverDoings_4 rfl (lv_at hl 0 rfl) ?_
  refine gS_store_chip C hP (C.2.2.2.2.2.2.1 _ wq_309) dX4_handoverDoings_5 ?_
  refine lv_aload_n hx hb dX4_handoverDoings_8 rfl (lv_at hl 0 rfl) ?_
  refine gS_store_inUse C hP (C.2.2.2.2.2.2.1 _ wq_316) dX4_handoverDoings_9 ?_
  refine kWi (rnVN C (ct_X1_leastErased l D cy Ad hap h) yv_X1_leastErased wn_421 ⟨rfl, rfl⟩ ⟨Nat.le_of_ble_eq_true rfl, Nat.le_of_ble_eq_true rfl⟩ ⟨Nat.zero_le _, Nat.zero_le _⟩ (vS_chip C hP) hP hl.1 rfl rfl (Nat.le_of_ble_eq_true rfl) dX4_handoverDoings_12) hS (fun _ h => h) (fun r12 σ12 μ12 H locs h hP hk hS => ?_)
  refine kWi (rnVN C (ct_X1_isBlank l D cy Ad hap h) yv_X1_isBlank wn_574 ⟨rfl, rfl⟩ ⟨Nat.le_of_ble_eq_true rfl, Nat.le_of_ble_eq_true rfl⟩ ⟨Nat.zero_le _, Nat.zero_le _⟩ (vS_chip C hP) hP hl.1 rfl rfl (Nat.le_of_ble_eq_true rfl) dX4_handoverDoings_15) hS (fun _ h => h) (fun r15 σ15 μ15 H locs h hP hk hS => ?_)
  refine lv_if_eq (tgt := 25) hx hb dX4_handoverDoings_18 (by decide) (fun hc => ?_) (fun hc => ?_)
  · have h := h.1 hc
    refine lv_iconst (v := 1) hx hb dX4_handoverDoings_25 (by decide) ?_
    exact wk_X4_handoverDoings_26 C hap h hP hS (lv_sub hl [0] rfl)
  · have h := h.2 hc
    refine lv_iconst (v := 0) hx hb dX4_handoverDoings_21 (by decide) ?_
    refine lv_goto (tgt := 26) hx hb dX4_handoverDoings_22 (by decide) ?_
    exact wk_X4_handoverDoings_26 C hap h hP hS (lv_sub hl [0] rfl)
abbrev rmX4_costOf : Room := { frames := 5, cells := 0, slots := 0, locals := 108 }
def wb_X4_costOf_50 (Q : Int32 → Rg → Ar → Prop) (σ : Rg) (μ : Ar) (t0 : Int32) : Prop := Q t0 σ μ
set_option maxHeartbeats 4000000 in
set_option maxRecDepth 100000 in
theorem wk_X4_costOf_50 {p : Program} {l : Launch} {e : Env} {s : State} {m : MethodId} {args : Array Value} {below : List Frame} {meth : Method} {c : Code} {D : va_G} {cy : ClassId} {Ad : Nat → Nat} (C : Cx p s m args meth c RX4 cX4_costOf 2 (some FieldType.int) D [(cy, .int)]) (hap : apt 18 Ad) {Q : Int32 → Rg → Ar → Prop} {σ : Rg} {μ : Ar} {t0 : Int32} {H : Heap} {locs : List Loc} {ls : Array Slot} (h : wb_X4_costOf_50 Q σ μ t0) (hP : va_P D vwCl (wS Ad cy σ μ) H) (hS : va_S (AS 18 Ad) s.heap H locs) (hl : lv_has ls 2 []) : W p l e rmX4_costOf s m args below meth c H locs 0 0 (MQ below (Qcg (PWi (wS Ad cy) D Q) (AS 18 Ad)) args s 0 0 (AS 18 Ad)) (F0 m 50 ls [.int t0]) := by
  have hx := C.1
  have hb := C.2.1
  exact endI C hS ⟨_, _, _, rfl, h, hP⟩ dX4_costOf_50
def wp_X4_costOf (σ : Rg) (μ : Ar) (x1 : Int32) (Q : Int32 → Rg → Ar → Prop) : Prop := wp_X3_scan σ μ (σ 0) (fun σ12 μ12 => wp_X3_freeBytes σ12 μ12  (fun r19 σ19 μ19 => ((r19 < x1 → wp_X3_freeBehindHandover σ19 μ19  (fun r32 σ32 μ32 => ((x1 ≤ r32 → wp_X4_handoverDoings σ32 μ32  (fun r45 σ45 μ45 => wb_X4_costOf_50 Q σ45 μ45 (r45 + x1))) ∧ (¬ x1 ≤ r32 → wb_X4_costOf_50 Q σ32 μ32 (-2 : Int32))))) ∧ (¬ r19 < x1 → Q x1 σ19 μ19))))
set_option maxHeartbeats 4000000 in
set_option maxRecDepth 100000 in
theorem ct_X4_costOf (l : Launch) (D : va_G) (cy : ClassId) (Ad : Nat → Nat) (hap : apt 18 Ad) {σ : Rg} {μ : Ar} {x1 : Int32} {Q : Int32 → Rg → Ar → Prop} (h : wp_X4_costOf σ μ x1 Q) : Ct l yX4_costOf cX4_costOf 2 (some FieldType.int) rmX4_costOf D [(cy, .int)] (fun H => va_P D vwCl (wS Ad cy σ μ) H) [.ref (Ad 0), .int x1] (AS 18 Ad) (PWi (wS Ad cy) D Q) := by
  refine Ct.of (by decide) (Nat.le_of_ble_eq_true rfl) ?_
  intro p e s m below meth c ls C hP hl
  have hl : lv_has ls 2 [(0, .ref (Ad 0)), (1, .int x1)] := hl
  have hS : va_S (AS 18 Ad) s.heap s.heap [] := va_S.rf
  have hx := C.1
  have hb := C.2.1
  refine lv_aload_n hx hb dX4_costOf_0 rfl (lv_at hl 0 rfl) ?_
  refine gS_store_reading C hP (C.2.2.2.2.2.2.1 _ wq_311) dX4_costOf_1 ?_
  refine lv_aload_n hx hb dX4_costOf_4 rfl (lv_at hl 0 rfl) ?_
  refine gS_store_chip C hP (C.2.2.2.2.2.2.1 _ wq_309) dX4_costOf_5 ?_
  refine lv_aload_n hx hb dX4_costOf_8 rfl (lv_at hl 0 rfl) ?_
  refine gS_store_inUse C hP (C.2.2.2.2.2.2.1 _ wq_316) dX4_costOf_9 ?_
  refine kWv (rnVN C (ct_X3_scan l D cy Ad hap h) yv_X3_scan wn_442 ⟨rfl, rfl⟩ ⟨Nat.le_of_ble_eq_true rfl, Nat.le_of_ble_eq_true rfl⟩ ⟨Nat.zero_le _, Nat.zero_le _⟩ (vS_reading C hP) hP hl.1 rfl rfl (Nat.le_of_ble_eq_true rfl) dX4_costOf_12) hS (fun _ h => h) (fun σ12 μ12 H locs h hP hk hS => ?_)
  refine lv_aload_n hx hb dX4_costOf_15 rfl (lv_at hl 0 rfl) ?_
  refine gS_store_reading C hP (C.2.2.2.2.2.2.1 _ wq_311) dX4_costOf_16 ?_
  refine kWi (rnVN C (ct_X3_freeBytes l D cy Ad hap h) yv_X3_freeBytes wn_558 ⟨rfl, rfl⟩ ⟨Nat.le_of_ble_eq_true rfl, Nat.le_of_ble_eq_true rfl⟩ ⟨Nat.zero_le _, Nat.zero_le _⟩ (vS_reading C hP) hP hl.1 rfl rfl (Nat.le_of_ble_eq_true rfl) dX4_costOf_19) hS (fun _ h => h) (fun r19 σ19 μ19 H locs h hP hk hS => ?_)
  refine lv_iload_n hx hb dX4_costOf_22 rfl (lv_at hl 1 rfl) ?_
  refine lv_icmp_lt (tgt := 28) hx hb dX4_costOf_23 (by decide) (fun hc => ?_) (fun hc => ?_)
  · have h := h.1 hc
    refine lv_aload_n hx hb dX4_costOf_28 rfl (lv_at hl 0 rfl) ?_
    refine gS_store_reading C hP (C.2.2.2.2.2.2.1 _ wq_311) dX4_costOf_29 ?_
    refine kWi (rnVN C (ct_X3_freeBehindHandover l D cy Ad hap h) yv_X3_freeBehindHandover wn_562 ⟨rfl, rfl⟩ ⟨Nat.le_of_ble_eq_true rfl, Nat.le_of_ble_eq_true rfl⟩ ⟨Nat.zero_le _, Nat.zero_le _⟩ (vS_reading C hP) hP hl.1 rfl rfl (Nat.le_of_ble_eq_true rfl) dX4_costOf_32) hS (fun _ h => h) (fun r32 σ32 μ32 H locs h hP hk hS => ?_)
    refine lv_iload_n hx hb dX4_costOf_35 rfl (lv_at hl 1 rfl) ?_
    refine lv_icmp_ge (tgt := 44) hx hb dX4_costOf_36 (by decide) (fun hc => ?_) (fun hc => ?_)
    · have h := h.1 hc
      refine lv_aload_n hx hb dX4_costOf_44 rfl (lv_at hl 0 rfl) ?_
      refine kWi (rnV C (ct_X4_handoverDoings l D cy Ad hap h) yv_X4_handoverDoings wq_755 ⟨rfl, rfl⟩ ⟨Nat.le_of_ble_eq_true rfl, Nat.le_of_ble_eq_true rfl⟩ ⟨Nat.zero_le _, Nat.zero_le _⟩ (vS_store C hP) hP hl.1 rfl rfl (Nat.le_of_ble_eq_true rfl) dX4_costOf_45) hS (fun _ h => h) (fun r45 σ45 μ45 H locs h hP hk hS => ?_)
      refine lv_iload_n hx hb dX4_costOf_48 rfl (lv_at hl 1 rfl) ?_
      refine lv_iadd hx hb dX4_costOf_49 ?_
      exact wk_X4_costOf_50 C hap h hP hS (lv_sub hl [] rfl)
    · have h := h.2 hc
      refine lv_bipush (v := -2) hx hb dX4_costOf_39 (by decide) ?_
      refine lv_goto (tgt := 50) hx hb dX4_costOf_41 (by decide) ?_
      exact wk_X4_costOf_50 C hap h hP hS (lv_sub hl [] rfl)
  · have h := h.2 hc
    refine lv_iload_n hx hb dX4_costOf_26 rfl (lv_at hl 1 rfl) ?_
    exact endI C hS ⟨_, _, _, rfl, h, hP⟩ dX4_costOf_27
abbrev rmX4_wearOut : Room := { frames := 3, cells := 0, slots := 0, locals := 65 }
def wb_X4_wearOut_65 (Q : Rg → Ar → Prop) (k2 : Rg → Ar → Int32 → Int32 → Prop) (σ : Rg) (μ : Ar) (v1 : Int32) (v2 : Int32) : Prop := ∀ y65 : Int32, y65 = v2 + (1 : Int32) → (k2 σ μ v1 y65)
set_option maxHeartbeats 4000000 in
set_option maxRecDepth 100000 in
theorem wk_X4_wearOut_65 {p : Program} {l : Launch} {e : Env} {s : State} {m : MethodId} {args : Array Value} {below : List Frame} {meth : Method} {c : Code} {D : va_G} {cy : ClassId} {Ad : Nat → Nat} (C : Cx p s m args meth c RX4 cX4_wearOut 4 (none : Option FieldType) D [(cy, .int)]) (hap : apt 18 Ad) {Q : Rg → Ar → Prop} {k2 : Rg → Ar → Int32 → Int32 → Prop} (hk2 : ∀ {σ : Rg} {μ : Ar} {v1 : Int32} {v2 : Int32} {H : Heap} {locs : List Loc} {ls : Array Slot}, k2 σ μ v1 v2 → va_P D vwCl (wS Ad cy σ μ) H → va_S (AS 18 Ad) s.heap H locs → lv_has ls 4 [(0, .ref (Ad 0)), (1, .int v1), (2, .int v2)] → W p l e rmX4_wearOut s m args below meth c H locs 0 0 (MQ below (Qcg (PWv (wS Ad cy) D Q) (AS 18 Ad)) args s 0 0 (AS 18 Ad)) (F0 m 2 ls [])) {σ : Rg} {μ : Ar} {v1 : Int32} {v2 : Int32} {H : Heap} {locs : List Loc} {ls : Array Slot} (h : wb_X4_wearOut_65 Q k2 σ μ v1 v2) (hP : va_P D vwCl (wS Ad cy σ μ) H) (hS : va_S (AS 18 Ad) s.heap H locs) (hl : lv_has ls 4 [(0, .ref (Ad 0)), (1, .int v1), (2, .int v2)]) : W p l e rmX4_wearOut s m args below meth c H locs 0 0 (MQ below (Qcg (PWv (wS Ad cy) D Q) (AS 18 Ad)) args s 0 0 (AS 18 Ad)) (F0 m 65 ls []) := by
  have hx := C.1
  have hb := C.2.1
  obtain ⟨y65, e65⟩ : ∃ y : Int32, y = v2 + (1 : Int32) := ⟨_, rfl⟩
  have h := h y65 e65
  refine lv_iinc (v := y65) (lv' := [(2, .int y65), (0, .ref (Ad 0)), (1, .int v1)]) hx hb dX4_wearOut_65 hl (k := 2) rfl (by rw [e65]; rfl) (by decide) rfl (fun ls hl => ?_)
  refine lv_goto (tgt := 2) hx hb dX4_wearOut_68 (by decide) ?_
  exact hk2 h hP hS (lv_sub hl [1, 2, 0] rfl)
def wb_X4_wearOut_2 (Q : Rg → Ar → Prop) (k2 : Rg → Ar → Int32 → Int32 → Prop) (σ : Rg) (μ : Ar) (v1 : Int32) (v2 : Int32) : Prop := ((v1 ≤ v2 → Q σ μ) ∧ (¬ v1 ≤ v2 → wp_X1_leastErased σ μ (σ 0) (fun r15 σ15 μ15 => wp_X1_hasSector σ15 μ15 (σ15 0) (fun r27 σ27 μ27 => ((r27 = 0 → wb_X4_wearOut_65 Q k2 σ27 μ27 v1 v2) ∧ (¬ r27 = 0 → wp_X1_hasSector σ27 μ27 r15 (fun r38 σ38 μ38 => ((r38 = 0 → wb_X4_wearOut_65 Q k2 σ38 μ38 v1 v2) ∧ (¬ r38 = 0 → (vp_in (σ38 0) 6) ∧ ((vp_in (σ38 0) 6) ∧ (∀ μ59 : Ar, μ59 = updA μ38 1 (upd (μ38 1) ((σ38 0)).toNatClampNeg ((μ38 1 ((σ38 0)).toNatClampNeg) + (1 : Int32))) → (∀ σ62 : Rg, σ62 = upd σ38 0 r15 → (wb_X4_wearOut_65 Q k2 σ62 μ59 v1 v2)))))))))))))
set_option maxHeartbeats 4000000 in
set_option maxRecDepth 100000 in
theorem wk_X4_wearOut_2 {p : Program} {l : Launch} {e : Env} {s : State} {m : MethodId} {args : Array Value} {below : List Frame} {meth : Method} {c : Code} {D : va_G} {cy : ClassId} {Ad : Nat → Nat} (C : Cx p s m args meth c RX4 cX4_wearOut 4 (none : Option FieldType) D [(cy, .int)]) (hap : apt 18 Ad) {Q : Rg → Ar → Prop} {k2 : Rg → Ar → Int32 → Int32 → Prop} (hk2 : ∀ {σ : Rg} {μ : Ar} {v1 : Int32} {v2 : Int32} {H : Heap} {locs : List Loc} {ls : Array Slot}, k2 σ μ v1 v2 → va_P D vwCl (wS Ad cy σ μ) H → va_S (AS 18 Ad) s.heap H locs → lv_has ls 4 [(0, .ref (Ad 0)), (1, .int v1), (2, .int v2)] → W p l e rmX4_wearOut s m args below meth c H locs 0 0 (MQ below (Qcg (PWv (wS Ad cy) D Q) (AS 18 Ad)) args s 0 0 (AS 18 Ad)) (F0 m 2 ls [])) {σ : Rg} {μ : Ar} {v1 : Int32} {v2 : Int32} {H : Heap} {locs : List Loc} {ls : Array Slot} (h : wb_X4_wearOut_2 Q k2 σ μ v1 v2) (hP : va_P D vwCl (wS Ad cy σ μ) H) (hS : va_S (AS 18 Ad) s.heap H locs) (hl : lv_has ls 4 [(0, .ref (Ad 0)), (1, .int v1), (2, .int v2)]) : W p l e rmX4_wearOut s m args below meth c H locs 0 0 (MQ below (Qcg (PWv (wS Ad cy) D Q) (AS 18 Ad)) args s 0 0 (AS 18 Ad)) (F0 m 2 ls []) := by
  have hx := C.1
  have hb := C.2.1
  refine lv_iload_n hx hb dX4_wearOut_2 rfl (lv_at hl 2 rfl) ?_
  refine lv_iload_n hx hb dX4_wearOut_3 rfl (lv_at hl 1 rfl) ?_
  refine lv_icmp_ge (tgt := 71) hx hb dX4_wearOut_4 (by decide) (fun hc => ?_) (fun hc => ?_)
  · have h := h.1 hc
    exact endV C hS ⟨_, _, rfl, h, hP⟩ dX4_wearOut_71
  · have h := h.2 hc
    refine lv_aload_n hx hb dX4_wearOut_7 rfl (lv_at hl 0 rfl) ?_
    refine gS_store_chip C hP (C.2.2.2.2.2.2.1 _ wq_309) dX4_wearOut_8 ?_
    refine lv_aload_n hx hb dX4_wearOut_11 rfl (lv_at hl 0 rfl) ?_
    refine gS_store_inUse C hP (C.2.2.2.2.2.2.1 _ wq_316) dX4_wearOut_12 ?_
    refine kWi (rnVN C (ct_X1_leastErased l D cy Ad hap h) yv_X1_leastErased wn_421 ⟨rfl, rfl⟩ ⟨Nat.le_of_ble_eq_true rfl, Nat.le_of_ble_eq_true rfl⟩ ⟨Nat.zero_le _, Nat.zero_le _⟩ (vS_chip C hP) hP hl.1 rfl rfl (Nat.le_of_ble_eq_true rfl) dX4_wearOut_15) hS (fun _ h => h) (fun r15 σ15 μ15 H locs h hP hk hS => ?_)
    refine lv_istore_n (lv' := [(3, .int r15), (0, .ref (Ad 0)), (1, .int v1), (2, .int v2)]) hx hb dX4_wearOut_18 rfl hl (by decide) rfl (fun ls hl => ?_)
    refine lv_aload_n hx hb dX4_wearOut_19 rfl (lv_at hl 1 rfl) ?_
    refine gS_store_chip C hP (C.2.2.2.2.2.2.1 _ wq_309) dX4_wearOut_20 ?_
    refine lv_aload_n hx hb dX4_wearOut_23 rfl (lv_at hl 1 rfl) ?_
    refine gS_store_inUse C hP (C.2.2.2.2.2.2.1 _ wq_316) dX4_wearOut_24 ?_
    refine kWi (rnVN C (ct_X1_hasSector l D cy Ad hap h) yv_X1_hasSector wn_803 ⟨rfl, rfl⟩ ⟨Nat.le_of_ble_eq_true rfl, Nat.le_of_ble_eq_true rfl⟩ ⟨Nat.zero_le _, Nat.zero_le _⟩ (vS_chip C hP) hP hl.1 rfl rfl (Nat.le_of_ble_eq_true rfl) dX4_wearOut_27) hS (fun _ h => h) (fun r27 σ27 μ27 H locs h hP hk hS => ?_)
    refine lv_if_eq (tgt := 65) hx hb dX4_wearOut_30 (by decide) (fun hc => ?_) (fun hc => ?_)
    · have h := h.1 hc
      exact wk_X4_wearOut_65 C hap hk2 h hP hS (lv_sub hl [1, 2, 3] rfl)
    · have h := h.2 hc
      refine lv_aload_n hx hb dX4_wearOut_33 rfl (lv_at hl 1 rfl) ?_
      refine gS_store_chip C hP (C.2.2.2.2.2.2.1 _ wq_309) dX4_wearOut_34 ?_
      refine lv_iload_n hx hb dX4_wearOut_37 rfl (lv_at hl 0 rfl) ?_
      refine kWi (rnVN C (ct_X1_hasSector l D cy Ad hap h) yv_X1_hasSector wn_803 ⟨rfl, rfl⟩ ⟨Nat.le_of_ble_eq_true rfl, Nat.le_of_ble_eq_true rfl⟩ ⟨Nat.zero_le _, Nat.zero_le _⟩ (vS_chip C hP) hP hl.1 rfl rfl (Nat.le_of_ble_eq_true rfl) dX4_wearOut_38) hS (fun _ h => h) (fun r38 σ38 μ38 H locs h hP hk hS => ?_)
      refine lv_if_eq (tgt := 65) hx hb dX4_wearOut_41 (by decide) (fun hc => ?_) (fun hc => ?_)
      · have h := h.1 hc
        exact wk_X4_wearOut_65 C hap hk2 h hP hS (lv_sub hl [1, 2, 3] rfl)
      · have h := h.2 hc
        refine lv_aload_n hx hb dX4_wearOut_44 rfl (lv_at hl 1 rfl) ?_
        refine gS_store_chip C hP (C.2.2.2.2.2.2.1 _ wq_309) dX4_wearOut_45 ?_
        refine gnS_chip_erases C hP (NW.use C.2.2.2.2.2.2.2.2 wn_170) dX4_wearOut_48 ?_
        refine lv_aload_n hx hb dX4_wearOut_51 rfl (lv_at hl 1 rfl) ?_
        refine gS_store_inUse C hP (C.2.2.2.2.2.2.1 _ wq_316) dX4_wearOut_52 ?_
        refine lv_dup2_11 hx hb dX4_wearOut_55 rfl rfl ?_
        obtain ⟨hc, h⟩ := h
        refine lS_1 C hP hc dX4_wearOut_56 ?_
        refine lv_iconst (v := 1) hx hb dX4_wearOut_57 (by decide) ?_
        refine lv_iadd hx hb dX4_wearOut_58 ?_
        obtain ⟨hc, h⟩ := h
        refine sS_1 C hap (fun _ h => h) hP hS hc dX4_wearOut_59 (fun H locs hP hS => ?_)
        obtain ⟨μ59, e59⟩ : ∃ z : Ar, z = updA μ38 1 (upd (μ38 1) ((σ38 0)).toNatClampNeg ((μ38 1 ((σ38 0)).toNatClampNeg) + (1 : Int32))) := ⟨_, rfl⟩
        have hP : va_P D vwCl (wS Ad cy σ38 μ59) H := by rw [e59]; exact hP
        have h := h μ59 e59
        refine lv_aload_n hx hb dX4_wearOut_60 rfl (lv_at hl 1 rfl) ?_
        refine lv_iload_n hx hb dX4_wearOut_61 rfl (lv_at hl 0 rfl) ?_
        refine pS_store_inUse C hap (fun _ h => h) hP hS (C.2.2.2.2.2.2.1 _ wq_316) dX4_wearOut_62 (fun H locs hP hS => ?_)
        obtain ⟨σ62, e62⟩ : ∃ z : Rg, z = upd σ38 0 r15 := ⟨_, rfl⟩
        have hP : va_P D vwCl (wS Ad cy σ62 μ59) H := by rw [e62]; exact hP
        have h := h σ62 e62
        exact wk_X4_wearOut_65 C hap hk2 h hP hS (lv_sub hl [1, 2, 3] rfl)
def wl_X4_wearOut_2 (Q : Rg → Ar → Prop) (n : Nat) : Rg → Ar → Int32 → Int32 → Prop := Nat.rec (motive := fun _ => Rg → Ar → Int32 → Int32 → Prop) (fun _ _ _ _ => False) (fun _ k => wb_X4_wearOut_2 Q k) n
set_option maxHeartbeats 4000000 in
theorem wkl_X4_wearOut_2 {p : Program} {l : Launch} {e : Env} {s : State} {m : MethodId} {args : Array Value} {below : List Frame} {meth : Method} {c : Code} {D : va_G} {cy : ClassId} {Ad : Nat → Nat} (C : Cx p s m args meth c RX4 cX4_wearOut 4 (none : Option FieldType) D [(cy, .int)]) (hap : apt 18 Ad) {Q : Rg → Ar → Prop}  : ∀ (n : Nat) {σ : Rg} {μ : Ar} {v1 : Int32} {v2 : Int32} {H : Heap} {locs : List Loc} {ls : Array Slot} (h : wl_X4_wearOut_2 Q  n σ μ v1 v2) (hP : va_P D vwCl (wS Ad cy σ μ) H) (hS : va_S (AS 18 Ad) s.heap H locs) (hl : lv_has ls 4 [(0, .ref (Ad 0)), (1, .int v1), (2, .int v2)]), W p l e rmX4_wearOut s m args below meth c H locs 0 0 (MQ below (Qcg (PWv (wS Ad cy) D Q) (AS 18 Ad)) args s 0 0 (AS 18 Ad)) (F0 m 2 ls []) := by
  intro n
  induction n with
  | zero => intro σ μ v1 v2 H locs ls h; exact h.elim
  | succ n ih =>
    intro σ μ v1 v2 H locs ls h hP hS hl
    exact wk_X4_wearOut_2 C hap (fun h hP hS hl => ih h hP hS hl) h hP hS hl
def wp_X4_wearOut (σ : Rg) (μ : Ar) (x1 : Int32) (Q : Rg → Ar → Prop) : Prop := ∃ n, wl_X4_wearOut_2 Q n σ μ x1 (0 : Int32)
set_option maxHeartbeats 4000000 in
set_option maxRecDepth 100000 in
theorem ct_X4_wearOut (l : Launch) (D : va_G) (cy : ClassId) (Ad : Nat → Nat) (hap : apt 18 Ad) {σ : Rg} {μ : Ar} {x1 : Int32} {Q : Rg → Ar → Prop} (h : wp_X4_wearOut σ μ x1 Q) : Ct l yX4_wearOut cX4_wearOut 4 (none : Option FieldType) rmX4_wearOut D [(cy, .int)] (fun H => va_P D vwCl (wS Ad cy σ μ) H) [.ref (Ad 0), .int x1] (AS 18 Ad) (PWv (wS Ad cy) D Q) := by
  refine Ct.of (by decide) (Nat.le_of_ble_eq_true rfl) ?_
  intro p e s m below meth c ls C hP hl
  have hl : lv_has ls 4 [(0, .ref (Ad 0)), (1, .int x1)] := hl
  have hS : va_S (AS 18 Ad) s.heap s.heap [] := va_S.rf
  have hx := C.1
  have hb := C.2.1
  refine lv_iconst (v := 0) hx hb dX4_wearOut_0 (by decide) ?_
  refine lv_istore_n (lv' := [(2, .int (0 : Int32)), (0, .ref (Ad 0)), (1, .int x1)]) hx hb dX4_wearOut_1 rfl hl (by decide) rfl (fun ls hl => ?_)
  obtain ⟨n, h⟩ := h
  exact wkl_X4_wearOut_2 C hap n h hP hS (lv_sub hl [1, 2, 0] rfl)
abbrev rmX5_unevenness : Room := { frames := 2, cells := 0, slots := 0, locals := 36 }
def wb_X5_unevenness_16 (Q : Int32 → Rg → Ar → Prop) (σ : Rg) (μ : Ar) : Prop := Q (0 : Int32) σ μ
set_option maxHeartbeats 4000000 in
set_option maxRecDepth 100000 in
theorem wk_X5_unevenness_16 {p : Program} {l : Launch} {e : Env} {s : State} {m : MethodId} {args : Array Value} {below : List Frame} {meth : Method} {c : Code} {D : va_G} {cy : ClassId} {Ad : Nat → Nat} (C : Cx p s m args meth c RX5 cX5_unevenness 3 (some FieldType.int) D [(cy, .int)]) (hap : apt 18 Ad) {Q : Int32 → Rg → Ar → Prop} {σ : Rg} {μ : Ar}  {H : Heap} {locs : List Loc} {ls : Array Slot} (h : wb_X5_unevenness_16 Q σ μ) (hP : va_P D vwCl (wS Ad cy σ μ) H) (hS : va_S (AS 18 Ad) s.heap H locs) (hl : lv_has ls 3 []) : W p l e rmX5_unevenness s m args below meth c H locs 0 0 (MQ below (Qcg (PWi (wS Ad cy) D Q) (AS 18 Ad)) args s 0 0 (AS 18 Ad)) (F0 m 16 ls []) := by
  have hx := C.1
  have hb := C.2.1
  refine lv_iconst (v := 0) hx hb dX5_unevenness_16 (by decide) ?_
  exact endI C hS ⟨_, _, _, rfl, h, hP⟩ dX5_unevenness_17
def wp_X5_unevenness (σ : Rg) (μ : Ar) (Q : Int32 → Rg → Ar → Prop) : Prop := wp_X1_allErases σ μ  (fun r1 σ1 μ1 => ((r1 ≤ 0 → wb_X5_unevenness_16 Q σ1 μ1) ∧ (¬ r1 ≤ 0 → ((0 < (σ1 3) → (vf_n32 (FP.fdiv (FP.i2f r1) (FP.i2f (σ1 3)))) ∧ (∀ y26 : UInt32, y26 = (FP.fdiv (FP.i2f r1) (FP.i2f (σ1 3))) → (wp_X1_mostErases σ1 μ1  (fun r28 σ28 μ28 => (vf_n32 (FP.fdiv (FP.i2f r28) y26)) ∧ (wp_X5_bitsOf (FP.fdiv (FP.i2f r28) y26) (fun r34 => Q r34 σ28 μ28)))))) ∧ (¬ 0 < (σ1 3) → wb_X5_unevenness_16 Q σ1 μ1)))))
set_option maxHeartbeats 4000000 in
set_option maxRecDepth 100000 in
theorem ct_X5_unevenness (l : Launch) (D : va_G) (cy : ClassId) (Ad : Nat → Nat) (hap : apt 18 Ad) {σ : Rg} {μ : Ar}  {Q : Int32 → Rg → Ar → Prop} (h : wp_X5_unevenness σ μ  Q) : Ct l yX5_unevenness cX5_unevenness 3 (some FieldType.int) rmX5_unevenness D [(cy, .int)] (fun H => va_P D vwCl (wS Ad cy σ μ) H) [.ref (Ad 1)] (AS 18 Ad) (PWi (wS Ad cy) D Q) := by
  refine Ct.of (by decide) (Nat.le_of_ble_eq_true rfl) ?_
  intro p e s m below meth c ls C hP hl
  have hl : lv_has ls 3 [(0, .ref (Ad 1))] := hl
  have hS : va_S (AS 18 Ad) s.heap s.heap [] := va_S.rf
  have hx := C.1
  have hb := C.2.1
  refine lv_aload_n hx hb dX5_unevenness_0 rfl (lv_at hl 0 rfl) ?_
  refine kWi (rnVN C (ct_X1_allErases l D cy Ad hap h) yv_X1_allErases wn_820 ⟨rfl, rfl⟩ ⟨Nat.le_of_ble_eq_true rfl, Nat.le_of_ble_eq_true rfl⟩ ⟨Nat.zero_le _, Nat.zero_le _⟩ (vS_chip C hP) hP hl.1 rfl rfl (Nat.le_of_ble_eq_true rfl) dX5_unevenness_1) hS (fun _ h => h) (fun r1 σ1 μ1 H locs h hP hk hS => ?_)
  refine lv_istore_n (lv' := [(1, .int r1), (0, .ref (Ad 1))]) hx hb dX5_unevenness_4 rfl hl (by decide) rfl (fun ls hl => ?_)
  refine lv_iload_n hx hb dX5_unevenness_5 rfl (lv_at hl 0 rfl) ?_
  refine lv_if_le (tgt := 16) hx hb dX5_unevenness_6 (by decide) (fun hc => ?_) (fun hc => ?_)
  · have h := h.1 hc
    exact wk_X5_unevenness_16 C hap h hP hS (lv_sub hl [] rfl)
  · have h := h.2 hc
    refine lv_aload_n hx hb dX5_unevenness_9 rfl (lv_at hl 1 rfl) ?_
    refine gnS_chip_sectors C hP (NW.use C.2.2.2.2.2.2.2.2 wn_172) dX5_unevenness_10 ?_
    refine lv_if_gt (tgt := 18) hx hb dX5_unevenness_13 (by decide) (fun hc => ?_) (fun hc => ?_)
    · have h := h.1 hc
      refine lv_iload_n hx hb dX5_unevenness_18 rfl (lv_at hl 0 rfl) ?_
      refine lv_i2f hx hb dX5_unevenness_19 ?_
      refine lv_aload_n hx hb dX5_unevenness_20 rfl (lv_at hl 1 rfl) ?_
      refine gnS_chip_sectors C hP (NW.use C.2.2.2.2.2.2.2.2 wn_172) dX5_unevenness_21 ?_
      refine lv_i2f hx hb dX5_unevenness_24 ?_
      obtain ⟨hc, h⟩ := h
      refine lv_fdiv hx hb dX5_unevenness_25 hc ?_
      refine lv_topf (fun y26 e26 => ?_)
      have h := h y26 e26
      refine lv_fstore_n (lv' := [(2, .float y26), (1, .int r1), (0, .ref (Ad 1))]) hx hb dX5_unevenness_26 rfl hl (by decide) rfl (fun ls hl => ?_)
      refine lv_aload_n hx hb dX5_unevenness_27 rfl (lv_at hl 2 rfl) ?_
      refine kWi (rnVN C (ct_X1_mostErases l D cy Ad hap h) yv_X1_mostErases wn_804 ⟨rfl, rfl⟩ ⟨Nat.le_of_ble_eq_true rfl, Nat.le_of_ble_eq_true rfl⟩ ⟨Nat.zero_le _, Nat.zero_le _⟩ (vS_chip C hP) hP hl.1 rfl rfl (Nat.le_of_ble_eq_true rfl) dX5_unevenness_28) hS (fun _ h => h) (fun r28 σ28 μ28 H locs h hP hk hS => ?_)
      refine lv_i2f hx hb dX5_unevenness_31 ?_
      refine lv_fload_n hx hb dX5_unevenness_32 rfl (lv_at hl 0 rfl) ?_
      obtain ⟨hc, h⟩ := h
      refine lv_fdiv hx hb dX5_unevenness_33 hc ?_
      refine kNi (rnS (C.none) (ct_X5_bitsOf l D h) ys_X5_bitsOf wq_827 ⟨rfl, rfl⟩ ⟨Nat.le_of_ble_eq_true rfl, Nat.le_of_ble_eq_true rfl⟩ ⟨Nat.zero_le _, Nat.zero_le _⟩ trivial hl.1 rfl rfl (Nat.le_of_ble_eq_true rfl) dX5_unevenness_34) hS (fun _ h => h.elim) (fun r34 H locs h hk hS => ?_)
      have hP := keepN hP hk
      exact endI C hS ⟨_, _, _, rfl, h, hP⟩ dX5_unevenness_37
    · have h := h.2 hc
      exact wk_X5_unevenness_16 C hap h hP hS (lv_sub hl [] rfl)
