abbrev rmX3_byteAt : Room := { frames := 0, cells := 0, slots := 0, locals := 0 }
def wb_X3_byteAt_33 (Q : Int32 → Rg → Ar → Prop) (σ : Rg) (μ : Ar) (t0 : Int32) : Prop := Q t0 σ μ
set_option maxHeartbeats 4000000 in
set_option maxRecDepth 100000 in
theorem wk_X3_byteAt_33 {p : Program} {l : Launch} {e : Env} {s : State} {m : MethodId} {args : Array Value} {below : List Frame} {meth : Method} {c : Code} {D : va_G} {cy : ClassId} {Ad : Nat → Nat} (C : Cx p s m args meth c RX3 cX3_byteAt 2 (some FieldType.int) D [(cy, .int)]) (hap : apt 18 Ad) {Q : Int32 → Rg → Ar → Prop} {σ : Rg} {μ : Ar} {t0 : Int32} {H : Heap} {locs : List Loc} {ls : Array Slot} (h : wb_X3_byteAt_33 Q σ μ t0) (hP : va_P D vwCl (wS Ad cy σ μ) H) (hS : va_S (AS 18 Ad) s.heap H locs) (hl : lv_has ls 2 []) : W p l e rmX3_byteAt s m args below meth c H locs 0 0 (MQ below (Qcg (PWi (wS Ad cy) D Q) (AS 18 Ad)) args s 0 0 (AS 18 Ad)) (F0 m 33 ls [.int t0]) := by
  have hx := C.1
  have hb := C.2.1
  exact endI C hS ⟨_, _, _, rfl, h, hP⟩ dX3_byteAt_33
def wb_X3_byteAt_30 (Q : Int32 → Rg → Ar → Prop) (σ : Rg) (μ : Ar) : Prop := wb_X3_byteAt_33 Q σ μ (255 : Int32)
set_option maxHeartbeats 4000000 in
set_option maxRecDepth 100000 in
theorem wk_X3_byteAt_30 {p : Program} {l : Launch} {e : Env} {s : State} {m : MethodId} {args : Array Value} {below : List Frame} {meth : Method} {c : Code} {D : va_G} {cy : ClassId} {Ad : Nat → Nat} (C : Cx p s m args meth c RX3 cX3_byteAt 2 (some FieldType.int) D [(cy, .int)]) (hap : apt 18 Ad) {Q : Int32 → Rg → Ar → Prop} {σ : Rg} {μ : Ar}  {H : Heap} {locs : List Loc} {ls : Array Slot} (h : wb_X3_byteAt_30 Q σ μ) (hP : va_P D vwCl (wS Ad cy σ μ) H) (hS : va_S (AS 18 Ad) s.heap H locs) (hl : lv_has ls 2 []) : W p l e rmX3_byteAt s m args below meth c H locs 0 0 (MQ below (Qcg (PWi (wS Ad cy) D Q) (AS 18 Ad)) args s 0 0 (AS 18 Ad)) (F0 m 30 ls []) := by
  have hx := C.1
  have hb := C.2.1
  refine lv_sipush (v := 255) hx hb dX3_byteAt_30 (by decide) ?_
  exact wk_X3_byteAt_33 C hap h hP hS (lv_sub hl [] rfl)
def wp_X3_byteAt (σ : Rg) (μ : Ar) (x1 : Int32) (Q : Int32 → Rg → Ar → Prop) : Prop := ((x1 < 0 → wb_X3_byteAt_30 Q σ μ) ∧ (¬ x1 < 0 → (((σ 11) ≤ x1 → wb_X3_byteAt_30 Q σ μ) ∧ (¬ (σ 11) ≤ x1 → (((128 : Int32) ≤ x1 → wb_X3_byteAt_30 Q σ μ) ∧ (¬ (128 : Int32) ≤ x1 → (vp_in x1 128) ∧ (wb_X3_byteAt_33 Q σ μ (μ 2 (x1).toNatClampNeg))))))))
set_option maxHeartbeats 4000000 in
set_option maxRecDepth 100000 in
theorem ct_X3_byteAt (l : Launch) (D : va_G) (cy : ClassId) (Ad : Nat → Nat) (hap : apt 18 Ad) {σ : Rg} {μ : Ar} {x1 : Int32} {Q : Int32 → Rg → Ar → Prop} (h : wp_X3_byteAt σ μ x1 Q) : Ct l yX3_byteAt cX3_byteAt 2 (some FieldType.int) rmX3_byteAt D [(cy, .int)] (fun H => va_P D vwCl (wS Ad cy σ μ) H) [.ref (Ad 4), .int x1] (AS 18 Ad) (PWi (wS Ad cy) D Q) := by
  refine Ct.of (by decide) (Nat.le_of_ble_eq_true rfl) ?_
  intro p e s m below meth c ls C hP hl
  have hl : lv_has ls 2 [(0, .ref (Ad 4)), (1, .int x1)] := hl
  have hS : va_S (AS 18 Ad) s.heap s.heap [] := va_S.rf
  have hx := C.1
  have hb := C.2.1
  refine lv_iload_n hx hb dX3_byteAt_0 rfl (lv_at hl 1 rfl) ?_
  refine lv_if_lt (tgt := 30) hx hb dX3_byteAt_1 (by decide) (fun hc => ?_) (fun hc => ?_)
  · have h := h.1 hc
    exact wk_X3_byteAt_30 C hap h hP hS (lv_sub hl [] rfl)
  · have h := h.2 hc
    refine lv_iload_n hx hb dX3_byteAt_4 rfl (lv_at hl 1 rfl) ?_
    refine lv_aload_n hx hb dX3_byteAt_5 rfl (lv_at hl 0 rfl) ?_
    refine gS_reading_size C hP (C.2.2.2.2.2.2.1 _ wq_223) dX3_byteAt_6 ?_
    refine lv_icmp_ge (tgt := 30) hx hb dX3_byteAt_9 (by decide) (fun hc => ?_) (fun hc => ?_)
    · have h := h.1 hc
      exact wk_X3_byteAt_30 C hap h hP hS (lv_sub hl [] rfl)
    · have h := h.2 hc
      refine lv_iload_n hx hb dX3_byteAt_12 rfl (lv_at hl 1 rfl) ?_
      refine lv_aload_n hx hb dX3_byteAt_13 rfl (lv_at hl 0 rfl) ?_
      refine gS_reading_row C hP (C.2.2.2.2.2.2.1 _ wq_216) dX3_byteAt_14 ?_
      refine nS_2 C hP dX3_byteAt_17 ?_
      refine lv_icmp_ge (tgt := 30) hx hb dX3_byteAt_18 (by decide) (fun hc => ?_) (fun hc => ?_)
      · have h := h.1 hc
        exact wk_X3_byteAt_30 C hap h hP hS (lv_sub hl [] rfl)
      · have h := h.2 hc
        refine lv_aload_n hx hb dX3_byteAt_21 rfl (lv_at hl 0 rfl) ?_
        refine gS_reading_row C hP (C.2.2.2.2.2.2.1 _ wq_216) dX3_byteAt_22 ?_
        refine lv_iload_n hx hb dX3_byteAt_25 rfl (lv_at hl 1 rfl) ?_
        obtain ⟨hc, h⟩ := h
        refine lS_2 C hP hc dX3_byteAt_26 ?_
        refine lv_goto (tgt := 33) hx hb dX3_byteAt_27 (by decide) ?_
        exact wk_X3_byteAt_33 C hap h hP hS (lv_sub hl [] rfl)
abbrev rmX3_firstMark : Room := { frames := 1, cells := 0, slots := 0, locals := 21 }
def wb_X3_firstMark_80 (Q : Int32 → Rg → Ar → Prop) (σ : Rg) (μ : Ar) (t0 : Int32) : Prop := Q t0 σ μ
set_option maxHeartbeats 4000000 in
set_option maxRecDepth 100000 in
theorem wk_X3_firstMark_80 {p : Program} {l : Launch} {e : Env} {s : State} {m : MethodId} {args : Array Value} {below : List Frame} {meth : Method} {c : Code} {D : va_G} {cy : ClassId} {Ad : Nat → Nat} (C : Cx p s m args meth c RX3 cX3_firstMark 7 (some FieldType.int) D [(cy, .int)]) (hap : apt 18 Ad) {Q : Int32 → Rg → Ar → Prop} {σ : Rg} {μ : Ar} {t0 : Int32} {H : Heap} {locs : List Loc} {ls : Array Slot} (h : wb_X3_firstMark_80 Q σ μ t0) (hP : va_P D vwCl (wS Ad cy σ μ) H) (hS : va_S (AS 18 Ad) s.heap H locs) (hl : lv_has ls 7 []) : W p l e rmX3_firstMark s m args below meth c H locs 0 0 (MQ below (Qcg (PWi (wS Ad cy) D Q) (AS 18 Ad)) args s 0 0 (AS 18 Ad)) (F0 m 80 ls [.int t0]) := by
  have hx := C.1
  have hb := C.2.1
  exact endI C hS ⟨_, _, _, rfl, h, hP⟩ dX3_firstMark_80
def wb_X3_firstMark_75 (Q : Int32 → Rg → Ar → Prop) (σ : Rg) (μ : Ar) : Prop := wb_X3_firstMark_80 Q σ μ (3 : Int32)
set_option maxHeartbeats 4000000 in
set_option maxRecDepth 100000 in
theorem wk_X3_firstMark_75 {p : Program} {l : Launch} {e : Env} {s : State} {m : MethodId} {args : Array Value} {below : List Frame} {meth : Method} {c : Code} {D : va_G} {cy : ClassId} {Ad : Nat → Nat} (C : Cx p s m args meth c RX3 cX3_firstMark 7 (some FieldType.int) D [(cy, .int)]) (hap : apt 18 Ad) {Q : Int32 → Rg → Ar → Prop} {σ : Rg} {μ : Ar}  {H : Heap} {locs : List Loc} {ls : Array Slot} (h : wb_X3_firstMark_75 Q σ μ) (hP : va_P D vwCl (wS Ad cy σ μ) H) (hS : va_S (AS 18 Ad) s.heap H locs) (hl : lv_has ls 7 []) : W p l e rmX3_firstMark s m args below meth c H locs 0 0 (MQ below (Qcg (PWi (wS Ad cy) D Q) (AS 18 Ad)) args s 0 0 (AS 18 Ad)) (F0 m 75 ls []) := by
  have hx := C.1
  have hb := C.2.1
  refine lv_iconst (v := 3) hx hb dX3_firstMark_75 (by decide) ?_
  refine lv_goto (tgt := 80) hx hb dX3_firstMark_76 (by decide) ?_
  exact wk_X3_firstMark_80 C hap h hP hS (lv_sub hl [] rfl)
def wb_X3_firstMark_21 (Q : Int32 → Rg → Ar → Prop) (k21 : Rg → Ar → Int32 → Int32 → Int32 → Int32 → Int32 → Prop) (σ : Rg) (μ : Ar) (v1 : Int32) (v2 : Int32) (v4 : Int32) (v5 : Int32) (v6 : Int32) : Prop := ((v4 ≤ v6 → wp_X3_byteAt σ μ (v2 + v4) (fun r52 σ52 μ52 => wp_X5_checkOf v5 (fun r57 => ((r52 = r57 → ((v1 = (2 : Int32) → wb_X3_firstMark_75 Q σ52 μ52) ∧ (¬ v1 = (2 : Int32) → ((¬ v1 = (3 : Int32) → wb_X3_firstMark_80 Q σ52 μ52 (1 : Int32)) ∧ (v1 = (3 : Int32) → wb_X3_firstMark_75 Q σ52 μ52))))) ∧ (¬ r52 = r57 → Q (2 : Int32) σ52 μ52))))) ∧ (¬ v4 ≤ v6 → wp_X3_byteAt σ μ (v2 + v6) (fun r35 σ35 μ35 => ∀ y39 : Int32, y39 = (v5 + r35) → (∀ y41 : Int32, y41 = v6 + (1 : Int32) → (k21 σ35 μ35 v1 v2 v4 y39 y41)))))
set_option maxHeartbeats 4000000 in
set_option maxRecDepth 100000 in
theorem wk_X3_firstMark_21 {p : Program} {l : Launch} {e : Env} {s : State} {m : MethodId} {args : Array Value} {below : List Frame} {meth : Method} {c : Code} {D : va_G} {cy : ClassId} {Ad : Nat → Nat} (C : Cx p s m args meth c RX3 cX3_firstMark 7 (some FieldType.int) D [(cy, .int)]) (hap : apt 18 Ad) {Q : Int32 → Rg → Ar → Prop} {k21 : Rg → Ar → Int32 → Int32 → Int32 → Int32 → Int32 → Prop} (hk21 : ∀ {σ : Rg} {μ : Ar} {v1 : Int32} {v2 : Int32} {v4 : Int32} {v5 : Int32} {v6 : Int32} {H : Heap} {locs : List Loc} {ls : Array Slot}, k21 σ μ v1 v2 v4 v5 v6 → va_P D vwCl (wS Ad cy σ μ) H → va_S (AS 18 Ad) s.heap H locs → lv_has ls 7 [(0, .ref (Ad 4)), (1, .int v1), (2, .int v2), (4, .int v4), (5, .int v5), (6, .int v6)] → W p l e rmX3_firstMark s m args below meth c H locs 0 0 (MQ below (Qcg (PWi (wS Ad cy) D Q) (AS 18 Ad)) args s 0 0 (AS 18 Ad)) (F0 m 21 ls [])) {σ : Rg} {μ : Ar} {v1 : Int32} {v2 : Int32} {v4 : Int32} {v5 : Int32} {v6 : Int32} {H : Heap} {locs : List Loc} {ls : Array Slot} (h : wb_X3_firstMark_21 Q k21 σ μ v1 v2 v4 v5 v6) (hP : va_P D vwCl (wS Ad cy σ μ) H) (hS : va_S (AS 18 Ad) s.heap H locs) (hl : lv_has ls 7 [(0, .ref (Ad 4)), (1, .int v1), (2, .int v2), (4, .int v4), (5, .int v5), (6, .int v6)]) : W p l e rmX3_firstMark s m args below meth c H locs 0 0 (MQ below (Qcg (PWi (wS Ad cy) D Q) (AS 18 Ad)) args s 0 0 (AS 18 Ad)) (F0 m 21 ls []) := by
  have hx := C.1
  have hb := C.2.1
  refine lv_iload hx hb dX3_firstMark_21 (lv_at hl 5 rfl) ?_
  refine lv_iload hx hb dX3_firstMark_23 (lv_at hl 3 rfl) ?_
  refine lv_icmp_ge (tgt := 47) hx hb dX3_firstMark_25 (by decide) (fun hc => ?_) (fun hc => ?_)
  · have h := h.1 hc
    refine lv_aload_n hx hb dX3_firstMark_47 rfl (lv_at hl 0 rfl) ?_
    refine lv_iload_n hx hb dX3_firstMark_48 rfl (lv_at hl 2 rfl) ?_
    refine lv_iload hx hb dX3_firstMark_49 (lv_at hl 3 rfl) ?_
    refine lv_iadd hx hb dX3_firstMark_51 ?_
    refine kWi (rnV C (ct_X3_byteAt l D cy Ad hap h) yv_X3_byteAt wq_455 ⟨rfl, rfl⟩ ⟨Nat.le_of_ble_eq_true rfl, Nat.le_of_ble_eq_true rfl⟩ ⟨Nat.zero_le _, Nat.zero_le _⟩ (vS_reading C hP) hP hl.1 rfl rfl (Nat.le_of_ble_eq_true rfl) dX3_firstMark_52) hS (fun _ h => h) (fun r52 σ52 μ52 H locs h hP hk hS => ?_)
    refine lv_iload hx hb dX3_firstMark_55 (lv_at hl 4 rfl) ?_
    refine kNi (rnSN (C.none) (ct_X5_checkOf l D h) ys_X5_checkOf wn_470 ⟨rfl, rfl⟩ ⟨Nat.le_of_ble_eq_true rfl, Nat.le_of_ble_eq_true rfl⟩ ⟨Nat.zero_le _, Nat.zero_le _⟩ trivial hl.1 rfl rfl (Nat.le_of_ble_eq_true rfl) dX3_firstMark_57) hS (fun _ h => h.elim) (fun r57 H locs h hk hS => ?_)
    have hP := keepN hP hk
    refine lv_icmp_eq (tgt := 65) hx hb dX3_firstMark_60 (by decide) (fun hc => ?_) (fun hc => ?_)
    · have h := h.1 hc
      refine lv_iload_n hx hb dX3_firstMark_65 rfl (lv_at hl 1 rfl) ?_
      refine lv_iconst (v := 2) hx hb dX3_firstMark_66 (by decide) ?_
      refine lv_icmp_eq (tgt := 75) hx hb dX3_firstMark_67 (by decide) (fun hc => ?_) (fun hc => ?_)
      · have h := h.1 hc
        exact wk_X3_firstMark_75 C hap h hP hS (lv_sub hl [] rfl)
      · have h := h.2 hc
        refine lv_iload_n hx hb dX3_firstMark_70 rfl (lv_at hl 1 rfl) ?_
        refine lv_iconst (v := 3) hx hb dX3_firstMark_71 (by decide) ?_
        refine lv_icmp_ne (tgt := 79) hx hb dX3_firstMark_72 (by decide) (fun hc => ?_) (fun hc => ?_)
        · have h := h.1 hc
          refine lv_iconst (v := 1) hx hb dX3_firstMark_79 (by decide) ?_
          exact wk_X3_firstMark_80 C hap h hP hS (lv_sub hl [] rfl)
        · have h := h.2 hc
          exact wk_X3_firstMark_75 C hap h hP hS (lv_sub hl [] rfl)
    · have h := h.2 hc
      refine lv_iconst (v := 2) hx hb dX3_firstMark_63 (by decide) ?_
      exact endI C hS ⟨_, _, _, rfl, h, hP⟩ dX3_firstMark_64
  · have h := h.2 hc
    refine lv_iload hx hb dX3_firstMark_28 (lv_at hl 4 rfl) ?_
    refine lv_aload_n hx hb dX3_firstMark_30 rfl (lv_at hl 0 rfl) ?_
    refine lv_iload_n hx hb dX3_firstMark_31 rfl (lv_at hl 2 rfl) ?_
    refine lv_iload hx hb dX3_firstMark_32 (lv_at hl 5 rfl) ?_
    refine lv_iadd hx hb dX3_firstMark_34 ?_
    refine kWi (rnV C (ct_X3_byteAt l D cy Ad hap h) yv_X3_byteAt wq_455 ⟨rfl, rfl⟩ ⟨Nat.le_of_ble_eq_true rfl, Nat.le_of_ble_eq_true rfl⟩ ⟨Nat.zero_le _, Nat.zero_le _⟩ (vS_reading C hP) hP hl.1 rfl rfl (Nat.le_of_ble_eq_true rfl) dX3_firstMark_35) hS (fun _ h => h) (fun r35 σ35 μ35 H locs h hP hk hS => ?_)
    refine lv_iadd hx hb dX3_firstMark_38 ?_
    refine lv_topi (fun y39 e39 => ?_)
    have h := h y39 e39
    refine lv_istore (lv' := [(5, .int y39), (0, .ref (Ad 4)), (1, .int v1), (2, .int v2), (4, .int v4), (6, .int v6)]) hx hb dX3_firstMark_39 hl (by decide) rfl (fun ls hl => ?_)
    obtain ⟨y41, e41⟩ : ∃ y : Int32, y = v6 + (1 : Int32) := ⟨_, rfl⟩
    have h := h y41 e41
    refine lv_iinc (v := y41) (lv' := [(6, .int y41), (5, .int y39), (0, .ref (Ad 4)), (1, .int v1), (2, .int v2), (4, .int v4)]) hx hb dX3_firstMark_41 hl (k := 5) rfl (by rw [e41]; rfl) (by decide) rfl (fun ls hl => ?_)
    refine lv_goto (tgt := 21) hx hb dX3_firstMark_44 (by decide) ?_
    exact hk21 h hP hS (lv_sub hl [2, 3, 4, 5, 1, 0] rfl)
def wl_X3_firstMark_21 (Q : Int32 → Rg → Ar → Prop) (n : Nat) : Rg → Ar → Int32 → Int32 → Int32 → Int32 → Int32 → Prop := Nat.rec (motive := fun _ => Rg → Ar → Int32 → Int32 → Int32 → Int32 → Int32 → Prop) (fun _ _ _ _ _ _ _ => False) (fun _ k => wb_X3_firstMark_21 Q k) n
set_option maxHeartbeats 4000000 in
theorem wkl_X3_firstMark_21 {p : Program} {l : Launch} {e : Env} {s : State} {m : MethodId} {args : Array Value} {below : List Frame} {meth : Method} {c : Code} {D : va_G} {cy : ClassId} {Ad : Nat → Nat} (C : Cx p s m args meth c RX3 cX3_firstMark 7 (some FieldType.int) D [(cy, .int)]) (hap : apt 18 Ad) {Q : Int32 → Rg → Ar → Prop}  : ∀ (n : Nat) {σ : Rg} {μ : Ar} {v1 : Int32} {v2 : Int32} {v4 : Int32} {v5 : Int32} {v6 : Int32} {H : Heap} {locs : List Loc} {ls : Array Slot} (h : wl_X3_firstMark_21 Q  n σ μ v1 v2 v4 v5 v6) (hP : va_P D vwCl (wS Ad cy σ μ) H) (hS : va_S (AS 18 Ad) s.heap H locs) (hl : lv_has ls 7 [(0, .ref (Ad 4)), (1, .int v1), (2, .int v2), (4, .int v4), (5, .int v5), (6, .int v6)]), W p l e rmX3_firstMark s m args below meth c H locs 0 0 (MQ below (Qcg (PWi (wS Ad cy) D Q) (AS 18 Ad)) args s 0 0 (AS 18 Ad)) (F0 m 21 ls []) := by
  intro n
  induction n with
  | zero => intro σ μ v1 v2 v4 v5 v6 H locs ls h; exact h.elim
  | succ n ih =>
    intro σ μ v1 v2 v4 v5 v6 H locs ls h hP hS hl
    exact wk_X3_firstMark_21 C hap (fun h hP hS hl => ih h hP hS hl) h hP hS hl
def wb_X3_firstMark_11 (Q : Int32 → Rg → Ar → Prop) (σ : Rg) (μ : Ar) (v1 : Int32) (v2 : Int32) (t0 : Int32) : Prop := ∀ y13 : Int32, y13 = (t0 - (1 : Int32)) → (∃ n, wl_X3_firstMark_21 Q n σ μ v1 v2 y13 (0 : Int32) (0 : Int32))
set_option maxHeartbeats 4000000 in
set_option maxRecDepth 100000 in
theorem wk_X3_firstMark_11 {p : Program} {l : Launch} {e : Env} {s : State} {m : MethodId} {args : Array Value} {below : List Frame} {meth : Method} {c : Code} {D : va_G} {cy : ClassId} {Ad : Nat → Nat} (C : Cx p s m args meth c RX3 cX3_firstMark 7 (some FieldType.int) D [(cy, .int)]) (hap : apt 18 Ad) {Q : Int32 → Rg → Ar → Prop} {σ : Rg} {μ : Ar} {v1 : Int32} {v2 : Int32} {t0 : Int32} {H : Heap} {locs : List Loc} {ls : Array Slot} (h : wb_X3_firstMark_11 Q σ μ v1 v2 t0) (hP : va_P D vwCl (wS Ad cy σ μ) H) (hS : va_S (AS 18 Ad) s.heap H locs) (hl : lv_has ls 7 [(0, .ref (Ad 4)), (1, .int v1), (2, .int v2)]) : W p l e rmX3_firstMark s m args below meth c H locs 0 0 (MQ below (Qcg (PWi (wS Ad cy) D Q) (AS 18 Ad)) args s 0 0 (AS 18 Ad)) (F0 m 11 ls [.int t0]) := by
  have hx := C.1
  have hb := C.2.1
  refine lv_iconst (v := 1) hx hb dX3_firstMark_11 (by decide) ?_
  refine lv_isub hx hb dX3_firstMark_12 ?_
  refine lv_topi (fun y13 e13 => ?_)
  have h := h y13 e13
  refine lv_istore (lv' := [(4, .int y13), (0, .ref (Ad 4)), (1, .int v1), (2, .int v2)]) hx hb dX3_firstMark_13 hl (by decide) rfl (fun ls hl => ?_)
  refine lv_iconst (v := 0) hx hb dX3_firstMark_15 (by decide) ?_
  refine lv_istore (lv' := [(5, .int (0 : Int32)), (4, .int y13), (0, .ref (Ad 4)), (1, .int v1), (2, .int v2)]) hx hb dX3_firstMark_16 hl (by decide) rfl (fun ls hl => ?_)
  refine lv_iconst (v := 0) hx hb dX3_firstMark_18 (by decide) ?_
  refine lv_istore (lv' := [(6, .int (0 : Int32)), (5, .int (0 : Int32)), (4, .int y13), (0, .ref (Ad 4)), (1, .int v1), (2, .int v2)]) hx hb dX3_firstMark_19 hl (by decide) rfl (fun ls hl => ?_)
  obtain ⟨n, h⟩ := h
  exact wkl_X3_firstMark_21 C hap n h hP hS (lv_sub hl [3, 4, 5, 2, 1, 0] rfl)
def wp_X3_firstMark (σ : Rg) (μ : Ar) (x1 : Int32) (x2 : Int32) (x3 : Int32) (Q : Int32 → Rg → Ar → Prop) : Prop := ((¬ x1 = (1 : Int32) → wb_X3_firstMark_11 Q σ μ x1 x2 x3) ∧ (x1 = (1 : Int32) → wb_X3_firstMark_11 Q σ μ x1 x2 (6 : Int32)))
set_option maxHeartbeats 4000000 in
set_option maxRecDepth 100000 in
theorem ct_X3_firstMark (l : Launch) (D : va_G) (cy : ClassId) (Ad : Nat → Nat) (hap : apt 18 Ad) {σ : Rg} {μ : Ar} {x1 : Int32} {x2 : Int32} {x3 : Int32} {Q : Int32 → Rg → Ar → Prop} (h : wp_X3_firstMark σ μ x1 x2 x3 Q) : Ct l yX3_firstMark cX3_firstMark 7 (some FieldType.int) rmX3_firstMark D [(cy, .int)] (fun H => va_P D vwCl (wS Ad cy σ μ) H) [.ref (Ad 4), .int x1, .int x2, .int x3] (AS 18 Ad) (PWi (wS Ad cy) D Q) := by
  refine Ct.of (by decide) (Nat.le_of_ble_eq_true rfl) ?_
  intro p e s m below meth c ls C hP hl
  have hl : lv_has ls 7 [(0, .ref (Ad 4)), (1, .int x1), (2, .int x2), (3, .int x3)] := hl
  have hS : va_S (AS 18 Ad) s.heap s.heap [] := va_S.rf
  have hx := C.1
  have hb := C.2.1
  refine lv_iload_n hx hb dX3_firstMark_0 rfl (lv_at hl 1 rfl) ?_
  refine lv_iconst (v := 1) hx hb dX3_firstMark_1 (by decide) ?_
  refine lv_icmp_ne (tgt := 10) hx hb dX3_firstMark_2 (by decide) (fun hc => ?_) (fun hc => ?_)
  · have h := h.1 hc
    refine lv_iload_n hx hb dX3_firstMark_10 rfl (lv_at hl 3 rfl) ?_
    exact wk_X3_firstMark_11 C hap h hP hS (lv_sub hl [0, 1, 2] rfl)
  · have h := h.2 hc
    refine lv_bipush (v := 6) hx hb dX3_firstMark_5 (by decide) ?_
    refine lv_goto (tgt := 11) hx hb dX3_firstMark_7 (by decide) ?_
    exact wk_X3_firstMark_11 C hap h hP hS (lv_sub hl [0, 1, 2] rfl)
abbrev rmX3_has : Room := { frames := 0, cells := 0, slots := 0, locals := 0 }
def wb_X3_has_17 (Q : Int32 → Rg → Ar → Prop) (σ : Rg) (μ : Ar) (t0 : Int32) : Prop := (bz t0) ∧ (Q t0 σ μ)
set_option maxHeartbeats 4000000 in
set_option maxRecDepth 100000 in
theorem wk_X3_has_17 {p : Program} {l : Launch} {e : Env} {s : State} {m : MethodId} {args : Array Value} {below : List Frame} {meth : Method} {c : Code} {D : va_G} {cy : ClassId} {Ad : Nat → Nat} (C : Cx p s m args meth c RX3 cX3_has 2 (some FieldType.boolean) D [(cy, .int)]) (hap : apt 18 Ad) {Q : Int32 → Rg → Ar → Prop} {σ : Rg} {μ : Ar} {t0 : Int32} {H : Heap} {locs : List Loc} {ls : Array Slot} (h : wb_X3_has_17 Q σ μ t0) (hP : va_P D vwCl (wS Ad cy σ μ) H) (hS : va_S (AS 18 Ad) s.heap H locs) (hl : lv_has ls 2 []) : W p l e rmX3_has s m args below meth c H locs 0 0 (MQ below (Qcg (PWi (wS Ad cy) D Q) (AS 18 Ad)) args s 0 0 (AS 18 Ad)) (F0 m 17 ls [.int t0]) := by
  have hx := C.1
  have hb := C.2.1
  obtain ⟨hc, h⟩ := h
  exact endZ C hS hc ⟨_, _, _, rfl, h, hP⟩ dX3_has_17
def wb_X3_has_16 (Q : Int32 → Rg → Ar → Prop) (σ : Rg) (μ : Ar) : Prop := wb_X3_has_17 Q σ μ (0 : Int32)
set_option maxHeartbeats 4000000 in
set_option maxRecDepth 100000 in
theorem wk_X3_has_16 {p : Program} {l : Launch} {e : Env} {s : State} {m : MethodId} {args : Array Value} {below : List Frame} {meth : Method} {c : Code} {D : va_G} {cy : ClassId} {Ad : Nat → Nat} (C : Cx p s m args meth c RX3 cX3_has 2 (some FieldType.boolean) D [(cy, .int)]) (hap : apt 18 Ad) {Q : Int32 → Rg → Ar → Prop} {σ : Rg} {μ : Ar}  {H : Heap} {locs : List Loc} {ls : Array Slot} (h : wb_X3_has_16 Q σ μ) (hP : va_P D vwCl (wS Ad cy σ μ) H) (hS : va_S (AS 18 Ad) s.heap H locs) (hl : lv_has ls 2 []) : W p l e rmX3_has s m args below meth c H locs 0 0 (MQ below (Qcg (PWi (wS Ad cy) D Q) (AS 18 Ad)) args s 0 0 (AS 18 Ad)) (F0 m 16 ls []) := by
  have hx := C.1
  have hb := C.2.1
  refine lv_iconst (v := 0) hx hb dX3_has_16 (by decide) ?_
  exact wk_X3_has_17 C hap h hP hS (lv_sub hl [] rfl)
def wp_X3_has (σ : Rg) (μ : Ar) (x1 : Int32) (Q : Int32 → Rg → Ar → Prop) : Prop := ((x1 < 0 → wb_X3_has_16 Q σ μ) ∧ (¬ x1 < 0 → (((σ 12) ≤ x1 → wb_X3_has_16 Q σ μ) ∧ (¬ (σ 12) ≤ x1 → wb_X3_has_17 Q σ μ (1 : Int32)))))
set_option maxHeartbeats 4000000 in
set_option maxRecDepth 100000 in
theorem ct_X3_has (l : Launch) (D : va_G) (cy : ClassId) (Ad : Nat → Nat) (hap : apt 18 Ad) {σ : Rg} {μ : Ar} {x1 : Int32} {Q : Int32 → Rg → Ar → Prop} (h : wp_X3_has σ μ x1 Q) : Ct l yX3_has cX3_has 2 (some FieldType.boolean) rmX3_has D [(cy, .int)] (fun H => va_P D vwCl (wS Ad cy σ μ) H) [.ref (Ad 4), .int x1] (AS 18 Ad) (PWi (wS Ad cy) D Q) := by
  refine Ct.of (by decide) (Nat.le_of_ble_eq_true rfl) ?_
  intro p e s m below meth c ls C hP hl
  have hl : lv_has ls 2 [(0, .ref (Ad 4)), (1, .int x1)] := hl
  have hS : va_S (AS 18 Ad) s.heap s.heap [] := va_S.rf
  have hx := C.1
  have hb := C.2.1
  refine lv_iload_n hx hb dX3_has_0 rfl (lv_at hl 1 rfl) ?_
  refine lv_if_lt (tgt := 16) hx hb dX3_has_1 (by decide) (fun hc => ?_) (fun hc => ?_)
  · have h := h.1 hc
    exact wk_X3_has_16 C hap h hP hS (lv_sub hl [] rfl)
  · have h := h.2 hc
    refine lv_iload_n hx hb dX3_has_4 rfl (lv_at hl 1 rfl) ?_
    refine lv_aload_n hx hb dX3_has_5 rfl (lv_at hl 0 rfl) ?_
    refine gS_reading_entries C hP (C.2.2.2.2.2.2.1 _ wq_224) dX3_has_6 ?_
    refine lv_icmp_ge (tgt := 16) hx hb dX3_has_9 (by decide) (fun hc => ?_) (fun hc => ?_)
    · have h := h.1 hc
      exact wk_X3_has_16 C hap h hP hS (lv_sub hl [] rfl)
    · have h := h.2 hc
      refine lv_iconst (v := 1) hx hb dX3_has_12 (by decide) ?_
      refine lv_goto (tgt := 17) hx hb dX3_has_13 (by decide) ?_
      exact wk_X3_has_17 C hap h hP hS (lv_sub hl [] rfl)
abbrev rmX3_settleParts : Room := { frames := 1, cells := 0, slots := 0, locals := 22 }
def wb_X3_settleParts_18 (Q : Rg → Ar → Prop) (σ : Rg) (μ : Ar) : Prop := Q σ μ
set_option maxHeartbeats 4000000 in
set_option maxRecDepth 100000 in
theorem wk_X3_settleParts_18 {p : Program} {l : Launch} {e : Env} {s : State} {m : MethodId} {args : Array Value} {below : List Frame} {meth : Method} {c : Code} {D : va_G} {cy : ClassId} {Ad : Nat → Nat} (C : Cx p s m args meth c RX3 cX3_settleParts 4 (none : Option FieldType) D [(cy, .int)]) (hap : apt 18 Ad) {Q : Rg → Ar → Prop} {σ : Rg} {μ : Ar}  {H : Heap} {locs : List Loc} {ls : Array Slot} (h : wb_X3_settleParts_18 Q σ μ) (hP : va_P D vwCl (wS Ad cy σ μ) H) (hS : va_S (AS 18 Ad) s.heap H locs) (hl : lv_has ls 4 []) : W p l e rmX3_settleParts s m args below meth c H locs 0 0 (MQ below (Qcg (PWv (wS Ad cy) D Q) (AS 18 Ad)) args s 0 0 (AS 18 Ad)) (F0 m 18 ls []) := by
  have hx := C.1
  have hb := C.2.1
  exact endV C hS ⟨_, _, rfl, h, hP⟩ dX3_settleParts_18
def wb_X3_settleParts_47 (Q : Rg → Ar → Prop) (σ : Rg) (μ : Ar) : Prop := Q σ μ
set_option maxHeartbeats 4000000 in
set_option maxRecDepth 100000 in
theorem wk_X3_settleParts_47 {p : Program} {l : Launch} {e : Env} {s : State} {m : MethodId} {args : Array Value} {below : List Frame} {meth : Method} {c : Code} {D : va_G} {cy : ClassId} {Ad : Nat → Nat} (C : Cx p s m args meth c RX3 cX3_settleParts 4 (none : Option FieldType) D [(cy, .int)]) (hap : apt 18 Ad) {Q : Rg → Ar → Prop} {σ : Rg} {μ : Ar}  {H : Heap} {locs : List Loc} {ls : Array Slot} (h : wb_X3_settleParts_47 Q σ μ) (hP : va_P D vwCl (wS Ad cy σ μ) H) (hS : va_S (AS 18 Ad) s.heap H locs) (hl : lv_has ls 4 []) : W p l e rmX3_settleParts s m args below meth c H locs 0 0 (MQ below (Qcg (PWv (wS Ad cy) D Q) (AS 18 Ad)) args s 0 0 (AS 18 Ad)) (F0 m 47 ls []) := by
  have hx := C.1
  have hb := C.2.1
  exact endV C hS ⟨_, _, rfl, h, hP⟩ dX3_settleParts_47
def wb_X3_settleParts_88 (Q : Rg → Ar → Prop) (k88 : Rg → Ar → Int32 → Int32 → Prop) (σ : Rg) (μ : Ar) (v1 : Int32) (v3 : Int32) : Prop := ((v1 ≤ v3 → (vp_in v1 41) ∧ (∀ μ112 : Ar, μ112 = updA μ 7 (upd (μ 7) (v1).toNatClampNeg (0 : Int32)) → (Q σ μ112))) ∧ (¬ v1 ≤ v3 → (vp_in v3 41) ∧ (∀ μ99 : Ar, μ99 = updA μ 7 (upd (μ 7) (v3).toNatClampNeg (1 : Int32)) → (∀ y100 : Int32, y100 = v3 + (1 : Int32) → (k88 σ μ99 v1 y100)))))
set_option maxHeartbeats 4000000 in
set_option maxRecDepth 100000 in
theorem wk_X3_settleParts_88 {p : Program} {l : Launch} {e : Env} {s : State} {m : MethodId} {args : Array Value} {below : List Frame} {meth : Method} {c : Code} {D : va_G} {cy : ClassId} {Ad : Nat → Nat} (C : Cx p s m args meth c RX3 cX3_settleParts 4 (none : Option FieldType) D [(cy, .int)]) (hap : apt 18 Ad) {Q : Rg → Ar → Prop} {k88 : Rg → Ar → Int32 → Int32 → Prop} (hk88 : ∀ {σ : Rg} {μ : Ar} {v1 : Int32} {v3 : Int32} {H : Heap} {locs : List Loc} {ls : Array Slot}, k88 σ μ v1 v3 → va_P D vwCl (wS Ad cy σ μ) H → va_S (AS 18 Ad) s.heap H locs → lv_has ls 4 [(0, .ref (Ad 4)), (1, .int v1), (3, .int v3)] → W p l e rmX3_settleParts s m args below meth c H locs 0 0 (MQ below (Qcg (PWv (wS Ad cy) D Q) (AS 18 Ad)) args s 0 0 (AS 18 Ad)) (F0 m 88 ls [])) {σ : Rg} {μ : Ar} {v1 : Int32} {v3 : Int32} {H : Heap} {locs : List Loc} {ls : Array Slot} (h : wb_X3_settleParts_88 Q k88 σ μ v1 v3) (hP : va_P D vwCl (wS Ad cy σ μ) H) (hS : va_S (AS 18 Ad) s.heap H locs) (hl : lv_has ls 4 [(0, .ref (Ad 4)), (1, .int v1), (3, .int v3)]) : W p l e rmX3_settleParts s m args below meth c H locs 0 0 (MQ below (Qcg (PWv (wS Ad cy) D Q) (AS 18 Ad)) args s 0 0 (AS 18 Ad)) (F0 m 88 ls []) := by
  have hx := C.1
  have hb := C.2.1
  refine lv_iload_n hx hb dX3_settleParts_88 rfl (lv_at hl 2 rfl) ?_
  refine lv_iload_n hx hb dX3_settleParts_89 rfl (lv_at hl 1 rfl) ?_
  refine lv_icmp_ge (tgt := 106) hx hb dX3_settleParts_90 (by decide) (fun hc => ?_) (fun hc => ?_)
  · have h := h.1 hc
    refine lv_aload_n hx hb dX3_settleParts_106 rfl (lv_at hl 0 rfl) ?_
    refine gS_reading_marks C hP (C.2.2.2.2.2.2.1 _ wq_221) dX3_settleParts_107 ?_
    refine lv_iload_n hx hb dX3_settleParts_110 rfl (lv_at hl 1 rfl) ?_
    refine lv_iconst (v := 0) hx hb dX3_settleParts_111 (by decide) ?_
    obtain ⟨hc, h⟩ := h
    refine sS_7 C hap (fun _ h => h) hP hS hc dX3_settleParts_112 (fun H locs hP hS => ?_)
    obtain ⟨μ112, e112⟩ : ∃ z : Ar, z = updA μ 7 (upd (μ 7) (v1).toNatClampNeg (0 : Int32)) := ⟨_, rfl⟩
    have hP : va_P D vwCl (wS Ad cy σ μ112) H := by rw [e112]; exact hP
    have h := h μ112 e112
    exact endV C hS ⟨_, _, rfl, h, hP⟩ dX3_settleParts_113
  · have h := h.2 hc
    refine lv_aload_n hx hb dX3_settleParts_93 rfl (lv_at hl 0 rfl) ?_
    refine gS_reading_marks C hP (C.2.2.2.2.2.2.1 _ wq_221) dX3_settleParts_94 ?_
    refine lv_iload_n hx hb dX3_settleParts_97 rfl (lv_at hl 2 rfl) ?_
    refine lv_iconst (v := 1) hx hb dX3_settleParts_98 (by decide) ?_
    obtain ⟨hc, h⟩ := h
    refine sS_7 C hap (fun _ h => h) hP hS hc dX3_settleParts_99 (fun H locs hP hS => ?_)
    obtain ⟨μ99, e99⟩ : ∃ z : Ar, z = updA μ 7 (upd (μ 7) (v3).toNatClampNeg (1 : Int32)) := ⟨_, rfl⟩
    have hP : va_P D vwCl (wS Ad cy σ μ99) H := by rw [e99]; exact hP
    have h := h μ99 e99
    obtain ⟨y100, e100⟩ : ∃ y : Int32, y = v3 + (1 : Int32) := ⟨_, rfl⟩
    have h := h y100 e100
    refine lv_iinc (v := y100) (lv' := [(3, .int y100), (0, .ref (Ad 4)), (1, .int v1)]) hx hb dX3_settleParts_100 hl (k := 2) rfl (by rw [e100]; rfl) (by decide) rfl (fun ls hl => ?_)
    refine lv_goto (tgt := 88) hx hb dX3_settleParts_103 (by decide) ?_
    exact hk88 h hP hS (lv_sub hl [1, 2, 0] rfl)
def wl_X3_settleParts_88 (Q : Rg → Ar → Prop) (n : Nat) : Rg → Ar → Int32 → Int32 → Prop := Nat.rec (motive := fun _ => Rg → Ar → Int32 → Int32 → Prop) (fun _ _ _ _ => False) (fun _ k => wb_X3_settleParts_88 Q k) n
set_option maxHeartbeats 4000000 in
theorem wkl_X3_settleParts_88 {p : Program} {l : Launch} {e : Env} {s : State} {m : MethodId} {args : Array Value} {below : List Frame} {meth : Method} {c : Code} {D : va_G} {cy : ClassId} {Ad : Nat → Nat} (C : Cx p s m args meth c RX3 cX3_settleParts 4 (none : Option FieldType) D [(cy, .int)]) (hap : apt 18 Ad) {Q : Rg → Ar → Prop}  : ∀ (n : Nat) {σ : Rg} {μ : Ar} {v1 : Int32} {v3 : Int32} {H : Heap} {locs : List Loc} {ls : Array Slot} (h : wl_X3_settleParts_88 Q  n σ μ v1 v3) (hP : va_P D vwCl (wS Ad cy σ μ) H) (hS : va_S (AS 18 Ad) s.heap H locs) (hl : lv_has ls 4 [(0, .ref (Ad 4)), (1, .int v1), (3, .int v3)]), W p l e rmX3_settleParts s m args below meth c H locs 0 0 (MQ below (Qcg (PWv (wS Ad cy) D Q) (AS 18 Ad)) args s 0 0 (AS 18 Ad)) (F0 m 88 ls []) := by
  intro n
  induction n with
  | zero => intro σ μ v1 v3 H locs ls h; exact h.elim
  | succ n ih =>
    intro σ μ v1 v3 H locs ls h hP hS hl
    exact wk_X3_settleParts_88 C hap (fun h hP hS hl => ih h hP hS hl) h hP hS hl
def wb_X3_settleParts_77 (Q : Rg → Ar → Prop) (σ : Rg) (μ : Ar) : Prop := Q σ μ
set_option maxHeartbeats 4000000 in
set_option maxRecDepth 100000 in
theorem wk_X3_settleParts_77 {p : Program} {l : Launch} {e : Env} {s : State} {m : MethodId} {args : Array Value} {below : List Frame} {meth : Method} {c : Code} {D : va_G} {cy : ClassId} {Ad : Nat → Nat} (C : Cx p s m args meth c RX3 cX3_settleParts 4 (none : Option FieldType) D [(cy, .int)]) (hap : apt 18 Ad) {Q : Rg → Ar → Prop} {σ : Rg} {μ : Ar}  {H : Heap} {locs : List Loc} {ls : Array Slot} (h : wb_X3_settleParts_77 Q σ μ) (hP : va_P D vwCl (wS Ad cy σ μ) H) (hS : va_S (AS 18 Ad) s.heap H locs) (hl : lv_has ls 4 []) : W p l e rmX3_settleParts s m args below meth c H locs 0 0 (MQ below (Qcg (PWv (wS Ad cy) D Q) (AS 18 Ad)) args s 0 0 (AS 18 Ad)) (F0 m 77 ls []) := by
  have hx := C.1
  have hb := C.2.1
  exact endV C hS ⟨_, _, rfl, h, hP⟩ dX3_settleParts_77
def wb_X3_settleParts_52 (Q : Rg → Ar → Prop) (k52 : Rg → Ar → Int32 → Int32 → Int32 → Prop) (σ : Rg) (μ : Ar) (v1 : Int32) (v2 : Int32) (v3 : Int32) : Prop := ((v1 ≤ v3 → ∀ y87 : Int32, y87 = (v1 - v2) → (∃ n, wl_X3_settleParts_88 Q n σ μ v1 y87)) ∧ (¬ v1 ≤ v3 → (vp_in v3 41) ∧ (((¬ (μ 4 (v3).toNatClampNeg) = (2 : Int32) → wb_X3_settleParts_77 Q σ μ) ∧ ((μ 4 (v3).toNatClampNeg) = (2 : Int32) → (vp_in v3 41) ∧ (((¬ (μ 7 (v3).toNatClampNeg) = (2 : Int32) → ∀ y78 : Int32, y78 = v3 + (1 : Int32) → (k52 σ μ v1 v2 y78)) ∧ ((μ 7 (v3).toNatClampNeg) = (2 : Int32) → wb_X3_settleParts_77 Q σ μ))))))))
set_option maxHeartbeats 4000000 in
set_option maxRecDepth 100000 in
theorem wk_X3_settleParts_52 {p : Program} {l : Launch} {e : Env} {s : State} {m : MethodId} {args : Array Value} {below : List Frame} {meth : Method} {c : Code} {D : va_G} {cy : ClassId} {Ad : Nat → Nat} (C : Cx p s m args meth c RX3 cX3_settleParts 4 (none : Option FieldType) D [(cy, .int)]) (hap : apt 18 Ad) {Q : Rg → Ar → Prop} {k52 : Rg → Ar → Int32 → Int32 → Int32 → Prop} (hk52 : ∀ {σ : Rg} {μ : Ar} {v1 : Int32} {v2 : Int32} {v3 : Int32} {H : Heap} {locs : List Loc} {ls : Array Slot}, k52 σ μ v1 v2 v3 → va_P D vwCl (wS Ad cy σ μ) H → va_S (AS 18 Ad) s.heap H locs → lv_has ls 4 [(0, .ref (Ad 4)), (1, .int v1), (2, .int v2), (3, .int v3)] → W p l e rmX3_settleParts s m args below meth c H locs 0 0 (MQ below (Qcg (PWv (wS Ad cy) D Q) (AS 18 Ad)) args s 0 0 (AS 18 Ad)) (F0 m 52 ls [])) {σ : Rg} {μ : Ar} {v1 : Int32} {v2 : Int32} {v3 : Int32} {H : Heap} {locs : List Loc} {ls : Array Slot} (h : wb_X3_settleParts_52 Q k52 σ μ v1 v2 v3) (hP : va_P D vwCl (wS Ad cy σ μ) H) (hS : va_S (AS 18 Ad) s.heap H locs) (hl : lv_has ls 4 [(0, .ref (Ad 4)), (1, .int v1), (2, .int v2), (3, .int v3)]) : W p l e rmX3_settleParts s m args below meth c H locs 0 0 (MQ below (Qcg (PWv (wS Ad cy) D Q) (AS 18 Ad)) args s 0 0 (AS 18 Ad)) (F0 m 52 ls []) := by
  have hx := C.1
  have hb := C.2.1
  refine lv_iload_n hx hb dX3_settleParts_52 rfl (lv_at hl 3 rfl) ?_
  refine lv_iload_n hx hb dX3_settleParts_53 rfl (lv_at hl 1 rfl) ?_
  refine lv_icmp_ge (tgt := 84) hx hb dX3_settleParts_54 (by decide) (fun hc => ?_) (fun hc => ?_)
  · have h := h.1 hc
    refine lv_iload_n hx hb dX3_settleParts_84 rfl (lv_at hl 1 rfl) ?_
    refine lv_iload_n hx hb dX3_settleParts_85 rfl (lv_at hl 2 rfl) ?_
    refine lv_isub hx hb dX3_settleParts_86 ?_
    refine lv_topi (fun y87 e87 => ?_)
    have h := h y87 e87
    refine lv_istore_n (lv' := [(3, .int y87), (0, .ref (Ad 4)), (1, .int v1), (2, .int v2)]) hx hb dX3_settleParts_87 rfl hl (by decide) rfl (fun ls hl => ?_)
    obtain ⟨n, h⟩ := h
    exact wkl_X3_settleParts_88 C hap n h hP hS (lv_sub hl [1, 2, 0] rfl)
  · have h := h.2 hc
    refine lv_aload_n hx hb dX3_settleParts_57 rfl (lv_at hl 0 rfl) ?_
    refine gS_reading_kinds C hP (C.2.2.2.2.2.2.1 _ wq_218) dX3_settleParts_58 ?_
    refine lv_iload_n hx hb dX3_settleParts_61 rfl (lv_at hl 3 rfl) ?_
    obtain ⟨hc, h⟩ := h
    refine lS_4 C hP hc dX3_settleParts_62 ?_
    refine lv_iconst (v := 2) hx hb dX3_settleParts_63 (by decide) ?_
    refine lv_icmp_ne (tgt := 77) hx hb dX3_settleParts_64 (by decide) (fun hc => ?_) (fun hc => ?_)
    · have h := h.1 hc
      exact wk_X3_settleParts_77 C hap h hP hS (lv_sub hl [] rfl)
    · have h := h.2 hc
      refine lv_aload_n hx hb dX3_settleParts_67 rfl (lv_at hl 0 rfl) ?_
      refine gS_reading_marks C hP (C.2.2.2.2.2.2.1 _ wq_221) dX3_settleParts_68 ?_
      refine lv_iload_n hx hb dX3_settleParts_71 rfl (lv_at hl 3 rfl) ?_
      obtain ⟨hc, h⟩ := h
      refine lS_7 C hP hc dX3_settleParts_72 ?_
      refine lv_iconst (v := 2) hx hb dX3_settleParts_73 (by decide) ?_
      refine lv_icmp_ne (tgt := 78) hx hb dX3_settleParts_74 (by decide) (fun hc => ?_) (fun hc => ?_)
      · have h := h.1 hc
        obtain ⟨y78, e78⟩ : ∃ y : Int32, y = v3 + (1 : Int32) := ⟨_, rfl⟩
        have h := h y78 e78
        refine lv_iinc (v := y78) (lv' := [(3, .int y78), (0, .ref (Ad 4)), (1, .int v1), (2, .int v2)]) hx hb dX3_settleParts_78 hl (k := 3) rfl (by rw [e78]; rfl) (by decide) rfl (fun ls hl => ?_)
        refine lv_goto (tgt := 52) hx hb dX3_settleParts_81 (by decide) ?_
        exact hk52 h hP hS (lv_sub hl [1, 2, 3, 0] rfl)
      · have h := h.2 hc
        exact wk_X3_settleParts_77 C hap h hP hS (lv_sub hl [] rfl)
def wl_X3_settleParts_52 (Q : Rg → Ar → Prop) (n : Nat) : Rg → Ar → Int32 → Int32 → Int32 → Prop := Nat.rec (motive := fun _ => Rg → Ar → Int32 → Int32 → Int32 → Prop) (fun _ _ _ _ _ => False) (fun _ k => wb_X3_settleParts_52 Q k) n
set_option maxHeartbeats 4000000 in
theorem wkl_X3_settleParts_52 {p : Program} {l : Launch} {e : Env} {s : State} {m : MethodId} {args : Array Value} {below : List Frame} {meth : Method} {c : Code} {D : va_G} {cy : ClassId} {Ad : Nat → Nat} (C : Cx p s m args meth c RX3 cX3_settleParts 4 (none : Option FieldType) D [(cy, .int)]) (hap : apt 18 Ad) {Q : Rg → Ar → Prop}  : ∀ (n : Nat) {σ : Rg} {μ : Ar} {v1 : Int32} {v2 : Int32} {v3 : Int32} {H : Heap} {locs : List Loc} {ls : Array Slot} (h : wl_X3_settleParts_52 Q  n σ μ v1 v2 v3) (hP : va_P D vwCl (wS Ad cy σ μ) H) (hS : va_S (AS 18 Ad) s.heap H locs) (hl : lv_has ls 4 [(0, .ref (Ad 4)), (1, .int v1), (2, .int v2), (3, .int v3)]), W p l e rmX3_settleParts s m args below meth c H locs 0 0 (MQ below (Qcg (PWv (wS Ad cy) D Q) (AS 18 Ad)) args s 0 0 (AS 18 Ad)) (F0 m 52 ls []) := by
  intro n
  induction n with
  | zero => intro σ μ v1 v2 v3 H locs ls h; exact h.elim
  | succ n ih =>
    intro σ μ v1 v2 v3 H locs ls h hP hS hl
    exact wk_X3_settleParts_52 C hap (fun h hP hS hl => ih h hP hS hl) h hP hS hl
def wp_X3_settleParts (σ : Rg) (μ : Ar) (x1 : Int32) (Q : Rg → Ar → Prop) : Prop := wp_X3_has σ μ x1 (fun r2 σ2 μ2 => ((r2 = 0 → wb_X3_settleParts_18 Q σ2 μ2) ∧ (¬ r2 = 0 → (vp_in x1 41) ∧ (((¬ (μ2 7 (x1).toNatClampNeg) = (2 : Int32) → (vp_in x1 41) ∧ (wp_X3_byteAt σ2 μ2 ((μ2 3 (x1).toNatClampNeg) + (2 : Int32)) (fun r28 σ28 μ28 => wp_X5_within r28 (1 : Int32) (8 : Int32) (fun r36 => ((r36 = 0 → wb_X3_settleParts_47 Q σ28 μ28) ∧ (¬ r36 = 0 → ((r28 ≤ x1 → ∀ y51 : Int32, y51 = (x1 - r28) → (∃ n, wl_X3_settleParts_52 Q n σ28 μ28 x1 r28 y51)) ∧ (¬ r28 ≤ x1 → wb_X3_settleParts_47 Q σ28 μ28)))))))) ∧ ((μ2 7 (x1).toNatClampNeg) = (2 : Int32) → wb_X3_settleParts_18 Q σ2 μ2))))))
set_option maxHeartbeats 4000000 in
set_option maxRecDepth 100000 in
theorem ct_X3_settleParts (l : Launch) (D : va_G) (cy : ClassId) (Ad : Nat → Nat) (hap : apt 18 Ad) {σ : Rg} {μ : Ar} {x1 : Int32} {Q : Rg → Ar → Prop} (h : wp_X3_settleParts σ μ x1 Q) : Ct l yX3_settleParts cX3_settleParts 4 (none : Option FieldType) rmX3_settleParts D [(cy, .int)] (fun H => va_P D vwCl (wS Ad cy σ μ) H) [.ref (Ad 4), .int x1] (AS 18 Ad) (PWv (wS Ad cy) D Q) := by
  refine Ct.of (by decide) (Nat.le_of_ble_eq_true rfl) ?_
  intro p e s m below meth c ls C hP hl
  have hl : lv_has ls 4 [(0, .ref (Ad 4)), (1, .int x1)] := hl
  have hS : va_S (AS 18 Ad) s.heap s.heap [] := va_S.rf
  have hx := C.1
  have hb := C.2.1
  refine lv_aload_n hx hb dX3_settleParts_0 rfl (lv_at hl 0 rfl) ?_
  refine lv_iload_n hx hb dX3_settleParts_1 rfl (lv_at hl 1 rfl) ?_
  refine kWi (rnV C (ct_X3_has l D cy Ad hap h) yv_X3_has wq_475 ⟨rfl, rfl⟩ ⟨Nat.le_of_ble_eq_true rfl, Nat.le_of_ble_eq_true rfl⟩ ⟨Nat.zero_le _, Nat.zero_le _⟩ (vS_reading C hP) hP hl.1 rfl rfl (Nat.le_of_ble_eq_true rfl) dX3_settleParts_2) hS (fun _ h => h) (fun r2 σ2 μ2 H locs h hP hk hS => ?_)
  refine lv_if_eq (tgt := 18) hx hb dX3_settleParts_5 (by decide) (fun hc => ?_) (fun hc => ?_)
  · have h := h.1 hc
    exact wk_X3_settleParts_18 C hap h hP hS (lv_sub hl [] rfl)
  · have h := h.2 hc
    refine lv_aload_n hx hb dX3_settleParts_8 rfl (lv_at hl 0 rfl) ?_
    refine gS_reading_marks C hP (C.2.2.2.2.2.2.1 _ wq_221) dX3_settleParts_9 ?_
    refine lv_iload_n hx hb dX3_settleParts_12 rfl (lv_at hl 1 rfl) ?_
    obtain ⟨hc, h⟩ := h
    refine lS_7 C hP hc dX3_settleParts_13 ?_
    refine lv_iconst (v := 2) hx hb dX3_settleParts_14 (by decide) ?_
    refine lv_icmp_ne (tgt := 19) hx hb dX3_settleParts_15 (by decide) (fun hc => ?_) (fun hc => ?_)
    · have h := h.1 hc
      refine lv_aload_n hx hb dX3_settleParts_19 rfl (lv_at hl 0 rfl) ?_
      refine lv_aload_n hx hb dX3_settleParts_20 rfl (lv_at hl 0 rfl) ?_
      refine gS_reading_places C hP (C.2.2.2.2.2.2.1 _ wq_217) dX3_settleParts_21 ?_
      refine lv_iload_n hx hb dX3_settleParts_24 rfl (lv_at hl 1 rfl) ?_
      obtain ⟨hc, h⟩ := h
      refine lS_3 C hP hc dX3_settleParts_25 ?_
      refine lv_iconst (v := 2) hx hb dX3_settleParts_26 (by decide) ?_
      refine lv_iadd hx hb dX3_settleParts_27 ?_
      refine kWi (rnV C (ct_X3_byteAt l D cy Ad hap h) yv_X3_byteAt wq_455 ⟨rfl, rfl⟩ ⟨Nat.le_of_ble_eq_true rfl, Nat.le_of_ble_eq_true rfl⟩ ⟨Nat.zero_le _, Nat.zero_le _⟩ (vS_reading C hP) hP hl.1 rfl rfl (Nat.le_of_ble_eq_true rfl) dX3_settleParts_28) hS (fun _ h => h) (fun r28 σ28 μ28 H locs h hP hk hS => ?_)
      refine lv_istore_n (lv' := [(2, .int r28), (0, .ref (Ad 4)), (1, .int x1)]) hx hb dX3_settleParts_31 rfl hl (by decide) rfl (fun ls hl => ?_)
      refine lv_iload_n hx hb dX3_settleParts_32 rfl (lv_at hl 0 rfl) ?_
      refine lv_iconst (v := 1) hx hb dX3_settleParts_33 (by decide) ?_
      refine lv_bipush (v := 8) hx hb dX3_settleParts_34 (by decide) ?_
      refine kNi (rnSN (C.none) (ct_X5_within l D h) ys_X5_within wn_462 ⟨rfl, rfl⟩ ⟨Nat.le_of_ble_eq_true rfl, Nat.le_of_ble_eq_true rfl⟩ ⟨Nat.zero_le _, Nat.zero_le _⟩ trivial hl.1 rfl rfl (Nat.le_of_ble_eq_true rfl) dX3_settleParts_36) hS (fun _ h => h.elim) (fun r36 H locs h hk hS => ?_)
      have hP := keepN hP hk
      refine lv_if_eq (tgt := 47) hx hb dX3_settleParts_39 (by decide) (fun hc => ?_) (fun hc => ?_)
      · have h := h.1 hc
        exact wk_X3_settleParts_47 C hap h hP hS (lv_sub hl [] rfl)
      · have h := h.2 hc
        refine lv_iload_n hx hb dX3_settleParts_42 rfl (lv_at hl 0 rfl) ?_
        refine lv_iload_n hx hb dX3_settleParts_43 rfl (lv_at hl 2 rfl) ?_
        refine lv_icmp_le (tgt := 48) hx hb dX3_settleParts_44 (by decide) (fun hc => ?_) (fun hc => ?_)
        · have h := h.1 hc
          refine lv_iload_n hx hb dX3_settleParts_48 rfl (lv_at hl 2 rfl) ?_
          refine lv_iload_n hx hb dX3_settleParts_49 rfl (lv_at hl 0 rfl) ?_
          refine lv_isub hx hb dX3_settleParts_50 ?_
          refine lv_topi (fun y51 e51 => ?_)
          have h := h y51 e51
          refine lv_istore_n (lv' := [(3, .int y51), (2, .int r28), (0, .ref (Ad 4)), (1, .int x1)]) hx hb dX3_settleParts_51 rfl hl (by decide) rfl (fun ls hl => ?_)
          obtain ⟨n, h⟩ := h
          exact wkl_X3_settleParts_52 C hap n h hP hS (lv_sub hl [2, 3, 1, 0] rfl)
        · have h := h.2 hc
          exact wk_X3_settleParts_47 C hap h hP hS (lv_sub hl [] rfl)
    · have h := h.2 hc
      exact wk_X3_settleParts_18 C hap h hP hS (lv_sub hl [] rfl)
abbrev rmX3_takeEntry : Room := { frames := 2, cells := 0, slots := 0, locals := 47 }
def wb_X3_takeEntry_55 (Q : Int32 → Rg → Ar → Prop) (σ : Rg) (μ : Ar) (v1 : Int32) : Prop := ∀ σ62 : Rg, σ62 = upd σ 14 ((σ 11) - v1) → (Q v1 σ62 μ)
set_option maxHeartbeats 4000000 in
set_option maxRecDepth 100000 in
theorem wk_X3_takeEntry_55 {p : Program} {l : Launch} {e : Env} {s : State} {m : MethodId} {args : Array Value} {below : List Frame} {meth : Method} {c : Code} {D : va_G} {cy : ClassId} {Ad : Nat → Nat} (C : Cx p s m args meth c RX3 cX3_takeEntry 6 (some FieldType.int) D [(cy, .int)]) (hap : apt 18 Ad) {Q : Int32 → Rg → Ar → Prop} {σ : Rg} {μ : Ar} {v1 : Int32} {H : Heap} {locs : List Loc} {ls : Array Slot} (h : wb_X3_takeEntry_55 Q σ μ v1) (hP : va_P D vwCl (wS Ad cy σ μ) H) (hS : va_S (AS 18 Ad) s.heap H locs) (hl : lv_has ls 6 [(0, .ref (Ad 4)), (1, .int v1)]) : W p l e rmX3_takeEntry s m args below meth c H locs 0 0 (MQ below (Qcg (PWi (wS Ad cy) D Q) (AS 18 Ad)) args s 0 0 (AS 18 Ad)) (F0 m 55 ls []) := by
  have hx := C.1
  have hb := C.2.1
  refine lv_aload_n hx hb dX3_takeEntry_55 rfl (lv_at hl 0 rfl) ?_
  refine lv_aload_n hx hb dX3_takeEntry_56 rfl (lv_at hl 0 rfl) ?_
  refine gS_reading_size C hP (C.2.2.2.2.2.2.1 _ wq_223) dX3_takeEntry_57 ?_
  refine lv_iload_n hx hb dX3_takeEntry_60 rfl (lv_at hl 1 rfl) ?_
  refine lv_isub hx hb dX3_takeEntry_61 ?_
  refine pS_reading_lost C hap (fun _ h => h) hP hS (C.2.2.2.2.2.2.1 _ wq_229) dX3_takeEntry_62 (fun H locs hP hS => ?_)
  obtain ⟨σ62, e62⟩ : ∃ z : Rg, z = upd σ 14 ((σ 11) - v1) := ⟨_, rfl⟩
  have hP : va_P D vwCl (wS Ad cy σ62 μ) H := by rw [e62]; exact hP
  have h := h σ62 e62
  refine lv_iload_n hx hb dX3_takeEntry_65 rfl (lv_at hl 1 rfl) ?_
  exact endI C hS ⟨_, _, _, rfl, h, hP⟩ dX3_takeEntry_66
def wb_X3_takeEntry_153 (Q : Int32 → Rg → Ar → Prop) (σ : Rg) (μ : Ar) (v1 : Int32) (v5 : Int32) : Prop := Q (v1 + v5) σ μ
set_option maxHeartbeats 4000000 in
set_option maxRecDepth 100000 in
theorem wk_X3_takeEntry_153 {p : Program} {l : Launch} {e : Env} {s : State} {m : MethodId} {args : Array Value} {below : List Frame} {meth : Method} {c : Code} {D : va_G} {cy : ClassId} {Ad : Nat → Nat} (C : Cx p s m args meth c RX3 cX3_takeEntry 6 (some FieldType.int) D [(cy, .int)]) (hap : apt 18 Ad) {Q : Int32 → Rg → Ar → Prop} {σ : Rg} {μ : Ar} {v1 : Int32} {v5 : Int32} {H : Heap} {locs : List Loc} {ls : Array Slot} (h : wb_X3_takeEntry_153 Q σ μ v1 v5) (hP : va_P D vwCl (wS Ad cy σ μ) H) (hS : va_S (AS 18 Ad) s.heap H locs) (hl : lv_has ls 6 [(1, .int v1), (5, .int v5)]) : W p l e rmX3_takeEntry s m args below meth c H locs 0 0 (MQ below (Qcg (PWi (wS Ad cy) D Q) (AS 18 Ad)) args s 0 0 (AS 18 Ad)) (F0 m 153 ls []) := by
  have hx := C.1
  have hb := C.2.1
  refine lv_iload_n hx hb dX3_takeEntry_153 rfl (lv_at hl 0 rfl) ?_
  refine lv_iload hx hb dX3_takeEntry_154 (lv_at hl 1 rfl) ?_
  refine lv_iadd hx hb dX3_takeEntry_156 ?_
  exact endI C hS ⟨_, _, _, rfl, h, hP⟩ dX3_takeEntry_157
def wp_X3_takeEntry (σ : Rg) (μ : Ar) (x1 : Int32) (Q : Int32 → Rg → Ar → Prop) : Prop := wp_X3_byteAt σ μ x1 (fun r2 σ2 μ2 => wp_X3_byteAt σ2 μ2 (x1 + (1 : Int32)) (fun r10 σ10 μ10 => wp_X3_kindOf r2 r10 (fun r16 => wp_X3_sizeOf r16 r10 (fun r24 => ((r16 = (-1 : Int32) → wb_X3_takeEntry_55 Q σ10 μ10 x1) ∧ (¬ r16 = (-1 : Int32) → (((σ10 11) < (x1 + r24) → wb_X3_takeEntry_55 Q σ10 μ10 x1) ∧ (¬ (σ10 11) < (x1 + r24) → (((σ10 12) < (41 : Int32) → (vp_in (σ10 12) 41) ∧ (∀ μ76 : Ar, μ76 = updA μ10 3 (upd (μ10 3) ((σ10 12)).toNatClampNeg x1) → ((vp_in (σ10 12) 41) ∧ (∀ μ87 : Ar, μ87 = updA μ76 4 (upd (μ76 4) ((σ10 12)).toNatClampNeg r16) → ((vp_in (σ10 12) 41) ∧ (∀ μ97 : Ar, μ97 = updA μ87 5 (upd (μ87 5) ((σ10 12)).toNatClampNeg r2) → ((vp_in (σ10 12) 41) ∧ (∀ μ108 : Ar, μ108 = updA μ97 6 (upd (μ97 6) ((σ10 12)).toNatClampNeg r24) → (wp_X3_firstMark σ10 μ108 r16 x1 r24 (fun r123 σ123 μ123 => (vp_in (σ10 12) 41) ∧ (∀ μ126 : Ar, μ126 = updA μ123 7 (upd (μ123 7) ((σ10 12)).toNatClampNeg r123) → (∀ σ134 : Rg, σ134 = upd σ123 12 ((σ123 12) + (1 : Int32)) → (((¬ r16 = (3 : Int32) → wb_X3_takeEntry_153 Q σ134 μ126 x1 r24) ∧ (r16 = (3 : Int32) → wp_X3_settleParts σ134 μ126 ((σ134 12) - (1 : Int32)) (fun σ150 μ150 => wb_X3_takeEntry_153 Q σ150 μ150 x1 r24)))))))))))))))) ∧ (¬ (σ10 12) < (41 : Int32) → wb_X3_takeEntry_55 Q σ10 μ10 x1))))))))))
set_option maxHeartbeats 4000000 in
set_option maxRecDepth 100000 in
theorem ct_X3_takeEntry (l : Launch) (D : va_G) (cy : ClassId) (Ad : Nat → Nat) (hap : apt 18 Ad) {σ : Rg} {μ : Ar} {x1 : Int32} {Q : Int32 → Rg → Ar → Prop} (h : wp_X3_takeEntry σ μ x1 Q) : Ct l yX3_takeEntry cX3_takeEntry 6 (some FieldType.int) rmX3_takeEntry D [(cy, .int)] (fun H => va_P D vwCl (wS Ad cy σ μ) H) [.ref (Ad 4), .int x1] (AS 18 Ad) (PWi (wS Ad cy) D Q) := by
  refine Ct.of (by decide) (Nat.le_of_ble_eq_true rfl) ?_
  intro p e s m below meth c ls C hP hl
  have hl : lv_has ls 6 [(0, .ref (Ad 4)), (1, .int x1)] := hl
  have hS : va_S (AS 18 Ad) s.heap s.heap [] := va_S.rf
  have hx := C.1
  have hb := C.2.1
  refine lv_aload_n hx hb dX3_takeEntry_0 rfl (lv_at hl 0 rfl) ?_
  refine lv_iload_n hx hb dX3_takeEntry_1 rfl (lv_at hl 1 rfl) ?_
  refine kWi (rnV C (ct_X3_byteAt l D cy Ad hap h) yv_X3_byteAt wq_455 ⟨rfl, rfl⟩ ⟨Nat.le_of_ble_eq_true rfl, Nat.le_of_ble_eq_true rfl⟩ ⟨Nat.zero_le _, Nat.zero_le _⟩ (vS_reading C hP) hP hl.1 rfl rfl (Nat.le_of_ble_eq_true rfl) dX3_takeEntry_2) hS (fun _ h => h) (fun r2 σ2 μ2 H locs h hP hk hS => ?_)
  refine lv_istore_n (lv' := [(2, .int r2), (0, .ref (Ad 4)), (1, .int x1)]) hx hb dX3_takeEntry_5 rfl hl (by decide) rfl (fun ls hl => ?_)
  refine lv_aload_n hx hb dX3_takeEntry_6 rfl (lv_at hl 1 rfl) ?_
  refine lv_iload_n hx hb dX3_takeEntry_7 rfl (lv_at hl 2 rfl) ?_
  refine lv_iconst (v := 1) hx hb dX3_takeEntry_8 (by decide) ?_
  refine lv_iadd hx hb dX3_takeEntry_9 ?_
  refine kWi (rnV C (ct_X3_byteAt l D cy Ad hap h) yv_X3_byteAt wq_455 ⟨rfl, rfl⟩ ⟨Nat.le_of_ble_eq_true rfl, Nat.le_of_ble_eq_true rfl⟩ ⟨Nat.zero_le _, Nat.zero_le _⟩ (vS_reading C hP) hP hl.1 rfl rfl (Nat.le_of_ble_eq_true rfl) dX3_takeEntry_10) hS (fun _ h => h) (fun r10 σ10 μ10 H locs h hP hk hS => ?_)
  refine lv_istore_n (lv' := [(3, .int r10), (2, .int r2), (0, .ref (Ad 4)), (1, .int x1)]) hx hb dX3_takeEntry_13 rfl hl (by decide) rfl (fun ls hl => ?_)
  refine lv_iload_n hx hb dX3_takeEntry_14 rfl (lv_at hl 1 rfl) ?_
  refine lv_iload_n hx hb dX3_takeEntry_15 rfl (lv_at hl 0 rfl) ?_
  refine kNi (rnS (C.none) (ct_X3_kindOf l D h) ys_X3_kindOf wq_459 ⟨rfl, rfl⟩ ⟨Nat.le_of_ble_eq_true rfl, Nat.le_of_ble_eq_true rfl⟩ ⟨Nat.zero_le _, Nat.zero_le _⟩ trivial hl.1 rfl rfl (Nat.le_of_ble_eq_true rfl) dX3_takeEntry_16) hS (fun _ h => h.elim) (fun r16 H locs h hk hS => ?_)
  have hP := keepN hP hk
  refine lv_istore (lv' := [(4, .int r16), (3, .int r10), (2, .int r2), (0, .ref (Ad 4)), (1, .int x1)]) hx hb dX3_takeEntry_19 hl (by decide) rfl (fun ls hl => ?_)
  refine lv_iload hx hb dX3_takeEntry_21 (lv_at hl 0 rfl) ?_
  refine lv_iload_n hx hb dX3_takeEntry_23 rfl (lv_at hl 1 rfl) ?_
  refine kNi (rnS (C.none) (ct_X3_sizeOf l D h) ys_X3_sizeOf wq_463 ⟨rfl, rfl⟩ ⟨Nat.le_of_ble_eq_true rfl, Nat.le_of_ble_eq_true rfl⟩ ⟨Nat.zero_le _, Nat.zero_le _⟩ trivial hl.1 rfl rfl (Nat.le_of_ble_eq_true rfl) dX3_takeEntry_24) hS (fun _ h => h.elim) (fun r24 H locs h hk hS => ?_)
  have hP := keepN hP hk
  refine lv_istore (lv' := [(5, .int r24), (4, .int r16), (3, .int r10), (2, .int r2), (0, .ref (Ad 4)), (1, .int x1)]) hx hb dX3_takeEntry_27 hl (by decide) rfl (fun ls hl => ?_)
  refine lv_iload hx hb dX3_takeEntry_29 (lv_at hl 1 rfl) ?_
  refine lv_iconst (v := -1) hx hb dX3_takeEntry_31 (by decide) ?_
  refine lv_icmp_eq (tgt := 55) hx hb dX3_takeEntry_32 (by decide) (fun hc => ?_) (fun hc => ?_)
  · have h := h.1 hc
    exact wk_X3_takeEntry_55 C hap h hP hS (lv_sub hl [4, 5] rfl)
  · have h := h.2 hc
    refine lv_iload_n hx hb dX3_takeEntry_35 rfl (lv_at hl 5 rfl) ?_
    refine lv_iload hx hb dX3_takeEntry_36 (lv_at hl 0 rfl) ?_
    refine lv_iadd hx hb dX3_takeEntry_38 ?_
    refine lv_aload_n hx hb dX3_takeEntry_39 rfl (lv_at hl 4 rfl) ?_
    refine gS_reading_size C hP (C.2.2.2.2.2.2.1 _ wq_223) dX3_takeEntry_40 ?_
    refine lv_icmp_gt (tgt := 55) hx hb dX3_takeEntry_43 (by decide) (fun hc => ?_) (fun hc => ?_)
    · have h := h.1 hc
      exact wk_X3_takeEntry_55 C hap h hP hS (lv_sub hl [4, 5] rfl)
    · have h := h.2 hc
      refine lv_aload_n hx hb dX3_takeEntry_46 rfl (lv_at hl 4 rfl) ?_
      refine gS_reading_entries C hP (C.2.2.2.2.2.2.1 _ wq_224) dX3_takeEntry_47 ?_
      refine lv_bipush (v := 41) hx hb dX3_takeEntry_50 (by decide) ?_
      refine lv_icmp_lt (tgt := 67) hx hb dX3_takeEntry_52 (by decide) (fun hc => ?_) (fun hc => ?_)
      · have h := h.1 hc
        refine lv_aload_n hx hb dX3_takeEntry_67 rfl (lv_at hl 4 rfl) ?_
        refine gS_reading_places C hP (C.2.2.2.2.2.2.1 _ wq_217) dX3_takeEntry_68 ?_
        refine lv_aload_n hx hb dX3_takeEntry_71 rfl (lv_at hl 4 rfl) ?_
        refine gS_reading_entries C hP (C.2.2.2.2.2.2.1 _ wq_224) dX3_takeEntry_72 ?_
        refine lv_iload_n hx hb dX3_takeEntry_75 rfl (lv_at hl 5 rfl) ?_
        obtain ⟨hc, h⟩ := h
        refine sS_3 C hap (fun _ h => h) hP hS hc dX3_takeEntry_76 (fun H locs hP hS => ?_)
        obtain ⟨μ76, e76⟩ : ∃ z : Ar, z = updA μ10 3 (upd (μ10 3) ((σ10 12)).toNatClampNeg x1) := ⟨_, rfl⟩
        have hP : va_P D vwCl (wS Ad cy σ10 μ76) H := by rw [e76]; exact hP
        have h := h μ76 e76
        refine lv_aload_n hx hb dX3_takeEntry_77 rfl (lv_at hl 4 rfl) ?_
        refine gS_reading_kinds C hP (C.2.2.2.2.2.2.1 _ wq_218) dX3_takeEntry_78 ?_
        refine lv_aload_n hx hb dX3_takeEntry_81 rfl (lv_at hl 4 rfl) ?_
        refine gS_reading_entries C hP (C.2.2.2.2.2.2.1 _ wq_224) dX3_takeEntry_82 ?_
        refine lv_iload hx hb dX3_takeEntry_85 (lv_at hl 1 rfl) ?_
        obtain ⟨hc, h⟩ := h
        refine sS_4 C hap (fun _ h => h) hP hS hc dX3_takeEntry_87 (fun H locs hP hS => ?_)
        obtain ⟨μ87, e87⟩ : ∃ z : Ar, z = updA μ76 4 (upd (μ76 4) ((σ10 12)).toNatClampNeg r16) := ⟨_, rfl⟩
        have hP : va_P D vwCl (wS Ad cy σ10 μ87) H := by rw [e87]; exact hP
        have h := h μ87 e87
        refine lv_aload_n hx hb dX3_takeEntry_88 rfl (lv_at hl 4 rfl) ?_
        refine gS_reading_labels C hP (C.2.2.2.2.2.2.1 _ wq_219) dX3_takeEntry_89 ?_
        refine lv_aload_n hx hb dX3_takeEntry_92 rfl (lv_at hl 4 rfl) ?_
        refine gS_reading_entries C hP (C.2.2.2.2.2.2.1 _ wq_224) dX3_takeEntry_93 ?_
        refine lv_iload_n hx hb dX3_takeEntry_96 rfl (lv_at hl 3 rfl) ?_
        obtain ⟨hc, h⟩ := h
        refine sS_5 C hap (fun _ h => h) hP hS hc dX3_takeEntry_97 (fun H locs hP hS => ?_)
        obtain ⟨μ97, e97⟩ : ∃ z : Ar, z = updA μ87 5 (upd (μ87 5) ((σ10 12)).toNatClampNeg r2) := ⟨_, rfl⟩
        have hP : va_P D vwCl (wS Ad cy σ10 μ97) H := by rw [e97]; exact hP
        have h := h μ97 e97
        refine lv_aload_n hx hb dX3_takeEntry_98 rfl (lv_at hl 4 rfl) ?_
        refine gS_reading_sizes C hP (C.2.2.2.2.2.2.1 _ wq_220) dX3_takeEntry_99 ?_
        refine lv_aload_n hx hb dX3_takeEntry_102 rfl (lv_at hl 4 rfl) ?_
        refine gS_reading_entries C hP (C.2.2.2.2.2.2.1 _ wq_224) dX3_takeEntry_103 ?_
        refine lv_iload hx hb dX3_takeEntry_106 (lv_at hl 0 rfl) ?_
        obtain ⟨hc, h⟩ := h
        refine sS_6 C hap (fun _ h => h) hP hS hc dX3_takeEntry_108 (fun H locs hP hS => ?_)
        obtain ⟨μ108, e108⟩ : ∃ z : Ar, z = updA μ97 6 (upd (μ97 6) ((σ10 12)).toNatClampNeg r24) := ⟨_, rfl⟩
        have hP : va_P D vwCl (wS Ad cy σ10 μ108) H := by rw [e108]; exact hP
        have h := h μ108 e108
        refine lv_aload_n hx hb dX3_takeEntry_109 rfl (lv_at hl 4 rfl) ?_
        refine gS_reading_marks C hP (C.2.2.2.2.2.2.1 _ wq_221) dX3_takeEntry_110 ?_
        refine lv_aload_n hx hb dX3_takeEntry_113 rfl (lv_at hl 4 rfl) ?_
        refine gS_reading_entries C hP (C.2.2.2.2.2.2.1 _ wq_224) dX3_takeEntry_114 ?_
        refine lv_aload_n hx hb dX3_takeEntry_117 rfl (lv_at hl 4 rfl) ?_
        refine lv_iload hx hb dX3_takeEntry_118 (lv_at hl 1 rfl) ?_
        refine lv_iload_n hx hb dX3_takeEntry_120 rfl (lv_at hl 5 rfl) ?_
        refine lv_iload hx hb dX3_takeEntry_121 (lv_at hl 0 rfl) ?_
        refine kWi (rnV C (ct_X3_firstMark l D cy Ad hap h) yv_X3_firstMark wq_466 ⟨rfl, rfl⟩ ⟨Nat.le_of_ble_eq_true rfl, Nat.le_of_ble_eq_true rfl⟩ ⟨Nat.zero_le _, Nat.zero_le _⟩ (vS_reading C hP) hP hl.1 rfl rfl (Nat.le_of_ble_eq_true rfl) dX3_takeEntry_123) hS (fun _ h => h) (fun r123 σ123 μ123 H locs h hP hk hS => ?_)
        obtain ⟨hc, h⟩ := h
        refine sS_7 C hap (fun _ h => h) hP hS hc dX3_takeEntry_126 (fun H locs hP hS => ?_)
        obtain ⟨μ126, e126⟩ : ∃ z : Ar, z = updA μ123 7 (upd (μ123 7) ((σ10 12)).toNatClampNeg r123) := ⟨_, rfl⟩
        have hP : va_P D vwCl (wS Ad cy σ123 μ126) H := by rw [e126]; exact hP
        have h := h μ126 e126
        refine lv_aload_n hx hb dX3_takeEntry_127 rfl (lv_at hl 4 rfl) ?_
        refine lv_dup hx hb dX3_takeEntry_128 rfl ?_
        refine gS_reading_entries C hP (C.2.2.2.2.2.2.1 _ wq_224) dX3_takeEntry_129 ?_
        refine lv_iconst (v := 1) hx hb dX3_takeEntry_132 (by decide) ?_
        refine lv_iadd hx hb dX3_takeEntry_133 ?_
        refine pS_reading_entries C hap (fun _ h => h) hP hS (C.2.2.2.2.2.2.1 _ wq_224) dX3_takeEntry_134 (fun H locs hP hS => ?_)
        obtain ⟨σ134, e134⟩ : ∃ z : Rg, z = upd σ123 12 ((σ123 12) + (1 : Int32)) := ⟨_, rfl⟩
        have hP : va_P D vwCl (wS Ad cy σ134 μ126) H := by rw [e134]; exact hP
        have h := h σ134 e134
        refine lv_iload hx hb dX3_takeEntry_137 (lv_at hl 1 rfl) ?_
        refine lv_iconst (v := 3) hx hb dX3_takeEntry_139 (by decide) ?_
        refine lv_icmp_ne (tgt := 153) hx hb dX3_takeEntry_140 (by decide) (fun hc => ?_) (fun hc => ?_)
        · have h := h.1 hc
          exact wk_X3_takeEntry_153 C hap h hP hS (lv_sub hl [5, 0] rfl)
        · have h := h.2 hc
          refine lv_aload_n hx hb dX3_takeEntry_143 rfl (lv_at hl 4 rfl) ?_
          refine lv_aload_n hx hb dX3_takeEntry_144 rfl (lv_at hl 4 rfl) ?_
          refine gS_reading_entries C hP (C.2.2.2.2.2.2.1 _ wq_224) dX3_takeEntry_145 ?_
          refine lv_iconst (v := 1) hx hb dX3_takeEntry_148 (by decide) ?_
          refine lv_isub hx hb dX3_takeEntry_149 ?_
          refine kWv (rnV C (ct_X3_settleParts l D cy Ad hap h) yv_X3_settleParts wq_471 ⟨rfl, rfl⟩ ⟨Nat.le_of_ble_eq_true rfl, Nat.le_of_ble_eq_true rfl⟩ ⟨Nat.zero_le _, Nat.zero_le _⟩ (vS_reading C hP) hP hl.1 rfl rfl (Nat.le_of_ble_eq_true rfl) dX3_takeEntry_150) hS (fun _ h => h) (fun σ150 μ150 H locs h hP hk hS => ?_)
          exact wk_X3_takeEntry_153 C hap h hP hS (lv_sub hl [5, 0] rfl)
      · have h := h.2 hc
        exact wk_X3_takeEntry_55 C hap h hP hS (lv_sub hl [4, 5] rfl)
abbrev rmX3_markNewest : Room := { frames := 1, cells := 0, slots := 0, locals := 23 }
def wb_X3_markNewest_91 (Q : Rg → Ar → Prop) (k60 : Rg → Ar → Int32 → Prop) (σ : Rg) (μ : Ar) (v1 : Int32) : Prop := ∀ y91 : Int32, y91 = v1 + (1 : Int32) → (k60 σ μ y91)
set_option maxHeartbeats 4000000 in
set_option maxRecDepth 100000 in
theorem wk_X3_markNewest_91 {p : Program} {l : Launch} {e : Env} {s : State} {m : MethodId} {args : Array Value} {below : List Frame} {meth : Method} {c : Code} {D : va_G} {cy : ClassId} {Ad : Nat → Nat} (C : Cx p s m args meth c RX3 cX3_markNewest 2 (none : Option FieldType) D [(cy, .int)]) (hap : apt 18 Ad) {Q : Rg → Ar → Prop} {k60 : Rg → Ar → Int32 → Prop} (hk60 : ∀ {σ : Rg} {μ : Ar} {v1 : Int32} {H : Heap} {locs : List Loc} {ls : Array Slot}, k60 σ μ v1 → va_P D vwCl (wS Ad cy σ μ) H → va_S (AS 18 Ad) s.heap H locs → lv_has ls 2 [(0, .ref (Ad 4)), (1, .int v1)] → W p l e rmX3_markNewest s m args below meth c H locs 0 0 (MQ below (Qcg (PWv (wS Ad cy) D Q) (AS 18 Ad)) args s 0 0 (AS 18 Ad)) (F0 m 60 ls [])) {σ : Rg} {μ : Ar} {v1 : Int32} {H : Heap} {locs : List Loc} {ls : Array Slot} (h : wb_X3_markNewest_91 Q k60 σ μ v1) (hP : va_P D vwCl (wS Ad cy σ μ) H) (hS : va_S (AS 18 Ad) s.heap H locs) (hl : lv_has ls 2 [(0, .ref (Ad 4)), (1, .int v1)]) : W p l e rmX3_markNewest s m args below meth c H locs 0 0 (MQ below (Qcg (PWv (wS Ad cy) D Q) (AS 18 Ad)) args s 0 0 (AS 18 Ad)) (F0 m 91 ls []) := by
  have hx := C.1
  have hb := C.2.1
  obtain ⟨y91, e91⟩ : ∃ y : Int32, y = v1 + (1 : Int32) := ⟨_, rfl⟩
  have h := h y91 e91
  refine lv_iinc (v := y91) (lv' := [(1, .int y91), (0, .ref (Ad 4))]) hx hb dX3_markNewest_91 hl (k := 1) rfl (by rw [e91]; rfl) (by decide) rfl (fun ls hl => ?_)
  refine lv_goto (tgt := 60) hx hb dX3_markNewest_94 (by decide) ?_
  exact hk60 h hP hS (lv_sub hl [1, 0] rfl)
def wb_X3_markNewest_60 (Q : Rg → Ar → Prop) (k60 : Rg → Ar → Int32 → Prop) (σ : Rg) (μ : Ar) (v1 : Int32) : Prop := (((48 : Int32) ≤ v1 → Q σ μ) ∧ (¬ (48 : Int32) ≤ v1 → (vp_in v1 48) ∧ (wp_X3_has σ μ (μ 8 (v1).toNatClampNeg) (fun r73 σ73 μ73 => ((r73 = 0 → wb_X3_markNewest_91 Q k60 σ73 μ73 v1) ∧ (¬ r73 = 0 → (vp_in v1 48) ∧ ((vp_in (μ73 8 (v1).toNatClampNeg) 41) ∧ (∀ μ90 : Ar, μ90 = updA μ73 7 (upd (μ73 7) ((μ73 8 (v1).toNatClampNeg)).toNatClampNeg (0 : Int32)) → (wb_X3_markNewest_91 Q k60 σ73 μ90 v1)))))))))
set_option maxHeartbeats 4000000 in
set_option maxRecDepth 100000 in
theorem wk_X3_markNewest_60 {p : Program} {l : Launch} {e : Env} {s : State} {m : MethodId} {args : Array Value} {below : List Frame} {meth : Method} {c : Code} {D : va_G} {cy : ClassId} {Ad : Nat → Nat} (C : Cx p s m args meth c RX3 cX3_markNewest 2 (none : Option FieldType) D [(cy, .int)]) (hap : apt 18 Ad) {Q : Rg → Ar → Prop} {k60 : Rg → Ar → Int32 → Prop} (hk60 : ∀ {σ : Rg} {μ : Ar} {v1 : Int32} {H : Heap} {locs : List Loc} {ls : Array Slot}, k60 σ μ v1 → va_P D vwCl (wS Ad cy σ μ) H → va_S (AS 18 Ad) s.heap H locs → lv_has ls 2 [(0, .ref (Ad 4)), (1, .int v1)] → W p l e rmX3_markNewest s m args below meth c H locs 0 0 (MQ below (Qcg (PWv (wS Ad cy) D Q) (AS 18 Ad)) args s 0 0 (AS 18 Ad)) (F0 m 60 ls [])) {σ : Rg} {μ : Ar} {v1 : Int32} {H : Heap} {locs : List Loc} {ls : Array Slot} (h : wb_X3_markNewest_60 Q k60 σ μ v1) (hP : va_P D vwCl (wS Ad cy σ μ) H) (hS : va_S (AS 18 Ad) s.heap H locs) (hl : lv_has ls 2 [(0, .ref (Ad 4)), (1, .int v1)]) : W p l e rmX3_markNewest s m args below meth c H locs 0 0 (MQ below (Qcg (PWv (wS Ad cy) D Q) (AS 18 Ad)) args s 0 0 (AS 18 Ad)) (F0 m 60 ls []) := by
  have hx := C.1
  have hb := C.2.1
  refine lv_iload_n hx hb dX3_markNewest_60 rfl (lv_at hl 1 rfl) ?_
  refine lv_bipush (v := 48) hx hb dX3_markNewest_61 (by decide) ?_
  refine lv_icmp_ge (tgt := 97) hx hb dX3_markNewest_63 (by decide) (fun hc => ?_) (fun hc => ?_)
  · have h := h.1 hc
    exact endV C hS ⟨_, _, rfl, h, hP⟩ dX3_markNewest_97
  · have h := h.2 hc
    refine lv_aload_n hx hb dX3_markNewest_66 rfl (lv_at hl 0 rfl) ?_
    refine lv_aload_n hx hb dX3_markNewest_67 rfl (lv_at hl 0 rfl) ?_
    refine gS_reading_newest C hP (C.2.2.2.2.2.2.1 _ wq_222) dX3_markNewest_68 ?_
    refine lv_iload_n hx hb dX3_markNewest_71 rfl (lv_at hl 1 rfl) ?_
    obtain ⟨hc, h⟩ := h
    refine lS_8 C hP hc dX3_markNewest_72 ?_
    refine kWi (rnV C (ct_X3_has l D cy Ad hap h) yv_X3_has wq_475 ⟨rfl, rfl⟩ ⟨Nat.le_of_ble_eq_true rfl, Nat.le_of_ble_eq_true rfl⟩ ⟨Nat.zero_le _, Nat.zero_le _⟩ (vS_reading C hP) hP hl.1 rfl rfl (Nat.le_of_ble_eq_true rfl) dX3_markNewest_73) hS (fun _ h => h) (fun r73 σ73 μ73 H locs h hP hk hS => ?_)
    refine lv_if_eq (tgt := 91) hx hb dX3_markNewest_76 (by decide) (fun hc => ?_) (fun hc => ?_)
    · have h := h.1 hc
      exact wk_X3_markNewest_91 C hap hk60 h hP hS (lv_sub hl [0, 1] rfl)
    · have h := h.2 hc
      refine lv_aload_n hx hb dX3_markNewest_79 rfl (lv_at hl 0 rfl) ?_
      refine gS_reading_marks C hP (C.2.2.2.2.2.2.1 _ wq_221) dX3_markNewest_80 ?_
      refine lv_aload_n hx hb dX3_markNewest_83 rfl (lv_at hl 0 rfl) ?_
      refine gS_reading_newest C hP (C.2.2.2.2.2.2.1 _ wq_222) dX3_markNewest_84 ?_
      refine lv_iload_n hx hb dX3_markNewest_87 rfl (lv_at hl 1 rfl) ?_
      obtain ⟨hc, h⟩ := h
      refine lS_8 C hP hc dX3_markNewest_88 ?_
      refine lv_iconst (v := 0) hx hb dX3_markNewest_89 (by decide) ?_
      obtain ⟨hc, h⟩ := h
      refine sS_7 C hap (fun _ h => h) hP hS hc dX3_markNewest_90 (fun H locs hP hS => ?_)
      obtain ⟨μ90, e90⟩ : ∃ z : Ar, z = updA μ73 7 (upd (μ73 7) ((μ73 8 (v1).toNatClampNeg)).toNatClampNeg (0 : Int32)) := ⟨_, rfl⟩
      have hP : va_P D vwCl (wS Ad cy σ73 μ90) H := by rw [e90]; exact hP
      have h := h μ90 e90
      exact wk_X3_markNewest_91 C hap hk60 h hP hS (lv_sub hl [0, 1] rfl)
def wl_X3_markNewest_60 (Q : Rg → Ar → Prop) (n : Nat) : Rg → Ar → Int32 → Prop := Nat.rec (motive := fun _ => Rg → Ar → Int32 → Prop) (fun _ _ _ => False) (fun _ k => wb_X3_markNewest_60 Q k) n
set_option maxHeartbeats 4000000 in
theorem wkl_X3_markNewest_60 {p : Program} {l : Launch} {e : Env} {s : State} {m : MethodId} {args : Array Value} {below : List Frame} {meth : Method} {c : Code} {D : va_G} {cy : ClassId} {Ad : Nat → Nat} (C : Cx p s m args meth c RX3 cX3_markNewest 2 (none : Option FieldType) D [(cy, .int)]) (hap : apt 18 Ad) {Q : Rg → Ar → Prop}  : ∀ (n : Nat) {σ : Rg} {μ : Ar} {v1 : Int32} {H : Heap} {locs : List Loc} {ls : Array Slot} (h : wl_X3_markNewest_60 Q  n σ μ v1) (hP : va_P D vwCl (wS Ad cy σ μ) H) (hS : va_S (AS 18 Ad) s.heap H locs) (hl : lv_has ls 2 [(0, .ref (Ad 4)), (1, .int v1)]), W p l e rmX3_markNewest s m args below meth c H locs 0 0 (MQ below (Qcg (PWv (wS Ad cy) D Q) (AS 18 Ad)) args s 0 0 (AS 18 Ad)) (F0 m 60 ls []) := by
  intro n
  induction n with
  | zero => intro σ μ v1 H locs ls h; exact h.elim
  | succ n ih =>
    intro σ μ v1 H locs ls h hP hS hl
    exact wk_X3_markNewest_60 C hap (fun h hP hS hl => ih h hP hS hl) h hP hS hl
def wb_X3_markNewest_52 (Q : Rg → Ar → Prop) (k10 : Rg → Ar → Int32 → Prop) (σ : Rg) (μ : Ar) (v1 : Int32) : Prop := ∀ y52 : Int32, y52 = v1 + (1 : Int32) → (k10 σ μ y52)
set_option maxHeartbeats 4000000 in
set_option maxRecDepth 100000 in
theorem wk_X3_markNewest_52 {p : Program} {l : Launch} {e : Env} {s : State} {m : MethodId} {args : Array Value} {below : List Frame} {meth : Method} {c : Code} {D : va_G} {cy : ClassId} {Ad : Nat → Nat} (C : Cx p s m args meth c RX3 cX3_markNewest 2 (none : Option FieldType) D [(cy, .int)]) (hap : apt 18 Ad) {Q : Rg → Ar → Prop} {k10 : Rg → Ar → Int32 → Prop} (hk10 : ∀ {σ : Rg} {μ : Ar} {v1 : Int32} {H : Heap} {locs : List Loc} {ls : Array Slot}, k10 σ μ v1 → va_P D vwCl (wS Ad cy σ μ) H → va_S (AS 18 Ad) s.heap H locs → lv_has ls 2 [(0, .ref (Ad 4)), (1, .int v1)] → W p l e rmX3_markNewest s m args below meth c H locs 0 0 (MQ below (Qcg (PWv (wS Ad cy) D Q) (AS 18 Ad)) args s 0 0 (AS 18 Ad)) (F0 m 10 ls [])) {σ : Rg} {μ : Ar} {v1 : Int32} {H : Heap} {locs : List Loc} {ls : Array Slot} (h : wb_X3_markNewest_52 Q k10 σ μ v1) (hP : va_P D vwCl (wS Ad cy σ μ) H) (hS : va_S (AS 18 Ad) s.heap H locs) (hl : lv_has ls 2 [(0, .ref (Ad 4)), (1, .int v1)]) : W p l e rmX3_markNewest s m args below meth c H locs 0 0 (MQ below (Qcg (PWv (wS Ad cy) D Q) (AS 18 Ad)) args s 0 0 (AS 18 Ad)) (F0 m 52 ls []) := by
  have hx := C.1
  have hb := C.2.1
  obtain ⟨y52, e52⟩ : ∃ y : Int32, y = v1 + (1 : Int32) := ⟨_, rfl⟩
  have h := h y52 e52
  refine lv_iinc (v := y52) (lv' := [(1, .int y52), (0, .ref (Ad 4))]) hx hb dX3_markNewest_52 hl (k := 1) rfl (by rw [e52]; rfl) (by decide) rfl (fun ls hl => ?_)
  refine lv_goto (tgt := 10) hx hb dX3_markNewest_55 (by decide) ?_
  exact hk10 h hP hS (lv_sub hl [1, 0] rfl)
def wb_X3_markNewest_10 (Q : Rg → Ar → Prop) (k10 : Rg → Ar → Int32 → Prop) (σ : Rg) (μ : Ar) (v1 : Int32) : Prop := (((σ 12) ≤ v1 → ∃ n, wl_X3_markNewest_60 Q n σ μ (0 : Int32)) ∧ (¬ (σ 12) ≤ v1 → (vp_in v1 41) ∧ (((¬ (μ 7 (v1).toNatClampNeg) = (1 : Int32) → wb_X3_markNewest_52 Q k10 σ μ v1) ∧ ((μ 7 (v1).toNatClampNeg) = (1 : Int32) → (vp_in v1 41) ∧ (wp_X5_isTag (μ 5 (v1).toNatClampNeg) (fun r34 => ((r34 = 0 → wb_X3_markNewest_52 Q k10 σ μ v1) ∧ (¬ r34 = 0 → (vp_in v1 41) ∧ ((vp_in (μ 5 (v1).toNatClampNeg) 48) ∧ (∀ μ51 : Ar, μ51 = updA μ 8 (upd (μ 8) ((μ 5 (v1).toNatClampNeg)).toNatClampNeg v1) → (wb_X3_markNewest_52 Q k10 σ μ51 v1))))))))))))
set_option maxHeartbeats 4000000 in
set_option maxRecDepth 100000 in
theorem wk_X3_markNewest_10 {p : Program} {l : Launch} {e : Env} {s : State} {m : MethodId} {args : Array Value} {below : List Frame} {meth : Method} {c : Code} {D : va_G} {cy : ClassId} {Ad : Nat → Nat} (C : Cx p s m args meth c RX3 cX3_markNewest 2 (none : Option FieldType) D [(cy, .int)]) (hap : apt 18 Ad) {Q : Rg → Ar → Prop} {k10 : Rg → Ar → Int32 → Prop} (hk10 : ∀ {σ : Rg} {μ : Ar} {v1 : Int32} {H : Heap} {locs : List Loc} {ls : Array Slot}, k10 σ μ v1 → va_P D vwCl (wS Ad cy σ μ) H → va_S (AS 18 Ad) s.heap H locs → lv_has ls 2 [(0, .ref (Ad 4)), (1, .int v1)] → W p l e rmX3_markNewest s m args below meth c H locs 0 0 (MQ below (Qcg (PWv (wS Ad cy) D Q) (AS 18 Ad)) args s 0 0 (AS 18 Ad)) (F0 m 10 ls [])) {σ : Rg} {μ : Ar} {v1 : Int32} {H : Heap} {locs : List Loc} {ls : Array Slot} (h : wb_X3_markNewest_10 Q k10 σ μ v1) (hP : va_P D vwCl (wS Ad cy σ μ) H) (hS : va_S (AS 18 Ad) s.heap H locs) (hl : lv_has ls 2 [(0, .ref (Ad 4)), (1, .int v1)]) : W p l e rmX3_markNewest s m args below meth c H locs 0 0 (MQ below (Qcg (PWv (wS Ad cy) D Q) (AS 18 Ad)) args s 0 0 (AS 18 Ad)) (F0 m 10 ls []) := by
  have hx := C.1
  have hb := C.2.1
  refine lv_iload_n hx hb dX3_markNewest_10 rfl (lv_at hl 1 rfl) ?_
  refine lv_aload_n hx hb dX3_markNewest_11 rfl (lv_at hl 0 rfl) ?_
  refine gS_reading_entries C hP (C.2.2.2.2.2.2.1 _ wq_224) dX3_markNewest_12 ?_
  refine lv_icmp_ge (tgt := 58) hx hb dX3_markNewest_15 (by decide) (fun hc => ?_) (fun hc => ?_)
  · have h := h.1 hc
    refine lv_iconst (v := 0) hx hb dX3_markNewest_58 (by decide) ?_
    refine lv_istore_n (lv' := [(1, .int (0 : Int32)), (0, .ref (Ad 4))]) hx hb dX3_markNewest_59 rfl hl (by decide) rfl (fun ls hl => ?_)
    obtain ⟨n, h⟩ := h
    exact wkl_X3_markNewest_60 C hap n h hP hS (lv_sub hl [1, 0] rfl)
  · have h := h.2 hc
    refine lv_aload_n hx hb dX3_markNewest_18 rfl (lv_at hl 0 rfl) ?_
    refine gS_reading_marks C hP (C.2.2.2.2.2.2.1 _ wq_221) dX3_markNewest_19 ?_
    refine lv_iload_n hx hb dX3_markNewest_22 rfl (lv_at hl 1 rfl) ?_
    obtain ⟨hc, h⟩ := h
    refine lS_7 C hP hc dX3_markNewest_23 ?_
    refine lv_iconst (v := 1) hx hb dX3_markNewest_24 (by decide) ?_
    refine lv_icmp_ne (tgt := 52) hx hb dX3_markNewest_25 (by decide) (fun hc => ?_) (fun hc => ?_)
    · have h := h.1 hc
      exact wk_X3_markNewest_52 C hap hk10 h hP hS (lv_sub hl [0, 1] rfl)
    · have h := h.2 hc
      refine lv_aload_n hx hb dX3_markNewest_28 rfl (lv_at hl 0 rfl) ?_
      refine gS_reading_labels C hP (C.2.2.2.2.2.2.1 _ wq_219) dX3_markNewest_29 ?_
      refine lv_iload_n hx hb dX3_markNewest_32 rfl (lv_at hl 1 rfl) ?_
      obtain ⟨hc, h⟩ := h
      refine lS_5 C hP hc dX3_markNewest_33 ?_
      refine kNi (rnSN (C.none) (ct_X5_isTag l D h) ys_X5_isTag wn_484 ⟨rfl, rfl⟩ ⟨Nat.le_of_ble_eq_true rfl, Nat.le_of_ble_eq_true rfl⟩ ⟨Nat.zero_le _, Nat.zero_le _⟩ trivial hl.1 rfl rfl (Nat.le_of_ble_eq_true rfl) dX3_markNewest_34) hS (fun _ h => h.elim) (fun r34 H locs h hk hS => ?_)
      have hP := keepN hP hk
      refine lv_if_eq (tgt := 52) hx hb dX3_markNewest_37 (by decide) (fun hc => ?_) (fun hc => ?_)
      · have h := h.1 hc
        exact wk_X3_markNewest_52 C hap hk10 h hP hS (lv_sub hl [0, 1] rfl)
      · have h := h.2 hc
        refine lv_aload_n hx hb dX3_markNewest_40 rfl (lv_at hl 0 rfl) ?_
        refine gS_reading_newest C hP (C.2.2.2.2.2.2.1 _ wq_222) dX3_markNewest_41 ?_
        refine lv_aload_n hx hb dX3_markNewest_44 rfl (lv_at hl 0 rfl) ?_
        refine gS_reading_labels C hP (C.2.2.2.2.2.2.1 _ wq_219) dX3_markNewest_45 ?_
        refine lv_iload_n hx hb dX3_markNewest_48 rfl (lv_at hl 1 rfl) ?_
        obtain ⟨hc, h⟩ := h
        refine lS_5 C hP hc dX3_markNewest_49 ?_
        refine lv_iload_n hx hb dX3_markNewest_50 rfl (lv_at hl 1 rfl) ?_
        obtain ⟨hc, h⟩ := h
        refine sS_8 C hap (fun _ h => h) hP hS hc dX3_markNewest_51 (fun H locs hP hS => ?_)
        obtain ⟨μ51, e51⟩ : ∃ z : Ar, z = updA μ 8 (upd (μ 8) ((μ 5 (v1).toNatClampNeg)).toNatClampNeg v1) := ⟨_, rfl⟩
        have hP : va_P D vwCl (wS Ad cy σ μ51) H := by rw [e51]; exact hP
        have h := h μ51 e51
        exact wk_X3_markNewest_52 C hap hk10 h hP hS (lv_sub hl [0, 1] rfl)
def wl_X3_markNewest_10 (Q : Rg → Ar → Prop) (n : Nat) : Rg → Ar → Int32 → Prop := Nat.rec (motive := fun _ => Rg → Ar → Int32 → Prop) (fun _ _ _ => False) (fun _ k => wb_X3_markNewest_10 Q k) n
set_option maxHeartbeats 4000000 in
theorem wkl_X3_markNewest_10 {p : Program} {l : Launch} {e : Env} {s : State} {m : MethodId} {args : Array Value} {below : List Frame} {meth : Method} {c : Code} {D : va_G} {cy : ClassId} {Ad : Nat → Nat} (C : Cx p s m args meth c RX3 cX3_markNewest 2 (none : Option FieldType) D [(cy, .int)]) (hap : apt 18 Ad) {Q : Rg → Ar → Prop}  : ∀ (n : Nat) {σ : Rg} {μ : Ar} {v1 : Int32} {H : Heap} {locs : List Loc} {ls : Array Slot} (h : wl_X3_markNewest_10 Q  n σ μ v1) (hP : va_P D vwCl (wS Ad cy σ μ) H) (hS : va_S (AS 18 Ad) s.heap H locs) (hl : lv_has ls 2 [(0, .ref (Ad 4)), (1, .int v1)]), W p l e rmX3_markNewest s m args below meth c H locs 0 0 (MQ below (Qcg (PWv (wS Ad cy) D Q) (AS 18 Ad)) args s 0 0 (AS 18 Ad)) (F0 m 10 ls []) := by
  intro n
  induction n with
  | zero => intro σ μ v1 H locs ls h; exact h.elim
  | succ n ih =>
    intro σ μ v1 H locs ls h hP hS hl
    exact wk_X3_markNewest_10 C hap (fun h hP hS hl => ih h hP hS hl) h hP hS hl
def wp_X3_markNewest (σ : Rg) (μ : Ar) (Q : Rg → Ar → Prop) : Prop := wp_J7_fill_53178_11 σ μ (-1 : Int32) (fun σ5 μ5 => ∃ n, wl_X3_markNewest_10 Q n σ5 μ5 (0 : Int32))
set_option maxHeartbeats 4000000 in
set_option maxRecDepth 100000 in
theorem ct_X3_markNewest (l : Launch) (D : va_G) (cy : ClassId) (Ad : Nat → Nat) (hap : apt 18 Ad) {σ : Rg} {μ : Ar}  {Q : Rg → Ar → Prop} (h : wp_X3_markNewest σ μ  Q) : Ct l yX3_markNewest cX3_markNewest 2 (none : Option FieldType) rmX3_markNewest D [(cy, .int)] (fun H => va_P D vwCl (wS Ad cy σ μ) H) [.ref (Ad 4)] (AS 18 Ad) (PWv (wS Ad cy) D Q) := by
  refine Ct.of (by decide) (Nat.le_of_ble_eq_true rfl) ?_
  intro p e s m below meth c ls C hP hl
  have hl : lv_has ls 2 [(0, .ref (Ad 4))] := hl
  have hS : va_S (AS 18 Ad) s.heap s.heap [] := va_S.rf
  have hx := C.1
  have hb := C.2.1
  refine lv_aload_n hx hb dX3_markNewest_0 rfl (lv_at hl 0 rfl) ?_
  refine gS_reading_newest C hP (C.2.2.2.2.2.2.1 _ wq_222) dX3_markNewest_1 ?_
  refine lv_iconst (v := -1) hx hb dX3_markNewest_4 (by decide) ?_
  refine kWv (rnS C (ct_J7_fill_53178_11 l D cy Ad hap h) ys_J7_fill_53178 wq_483 ⟨rfl, rfl⟩ ⟨Nat.le_of_ble_eq_true rfl, Nat.le_of_ble_eq_true rfl⟩ ⟨Nat.zero_le _, Nat.zero_le _⟩ hP hl.1 rfl rfl (Nat.le_of_ble_eq_true rfl) dX3_markNewest_5) hS (fun _ h => h) (fun σ5 μ5 H locs h hP hk hS => ?_)
  refine lv_iconst (v := 0) hx hb dX3_markNewest_8 (by decide) ?_
  refine lv_istore_n (lv' := [(1, .int (0 : Int32)), (0, .ref (Ad 4))]) hx hb dX3_markNewest_9 rfl hl (by decide) rfl (fun ls hl => ?_)
  obtain ⟨n, h⟩ := h
  exact wkl_X3_markNewest_10 C hap n h hP hS (lv_sub hl [1, 0] rfl)
abbrev rmX3_scan : Room := { frames := 3, cells := 0, slots := 0, locals := 72 }
def wb_X3_scan_90 (Q : Rg → Ar → Prop) (σ : Rg) (μ : Ar) (t0 : Int32) : Prop := ∀ σ90 : Rg, σ90 = upd σ 13 t0 → (wp_X3_markNewest σ90 μ  (fun σ94 μ94 => Q σ94 μ94))
set_option maxHeartbeats 4000000 in
set_option maxRecDepth 100000 in
theorem wk_X3_scan_90 {p : Program} {l : Launch} {e : Env} {s : State} {m : MethodId} {args : Array Value} {below : List Frame} {meth : Method} {c : Code} {D : va_G} {cy : ClassId} {Ad : Nat → Nat} (C : Cx p s m args meth c RX3 cX3_scan 6 (none : Option FieldType) D [(cy, .int)]) (hap : apt 18 Ad) {Q : Rg → Ar → Prop} {σ : Rg} {μ : Ar} {t0 : Int32} {H : Heap} {locs : List Loc} {ls : Array Slot} (h : wb_X3_scan_90 Q σ μ t0) (hP : va_P D vwCl (wS Ad cy σ μ) H) (hS : va_S (AS 18 Ad) s.heap H locs) (hl : lv_has ls 6 [(0, .ref (Ad 4))]) : W p l e rmX3_scan s m args below meth c H locs 0 0 (MQ below (Qcg (PWv (wS Ad cy) D Q) (AS 18 Ad)) args s 0 0 (AS 18 Ad)) (F0 m 90 ls [.int t0, .ref (Ad 4)]) := by
  have hx := C.1
  have hb := C.2.1
  refine pS_reading_free C hap (fun _ h => h) hP hS (C.2.2.2.2.2.2.1 _ wq_226) dX3_scan_90 (fun H locs hP hS => ?_)
  obtain ⟨σ90, e90⟩ : ∃ z : Rg, z = upd σ 13 t0 := ⟨_, rfl⟩
  have hP : va_P D vwCl (wS Ad cy σ90 μ) H := by rw [e90]; exact hP
  have h := h σ90 e90
  refine lv_aload_n hx hb dX3_scan_93 rfl (lv_at hl 0 rfl) ?_
  refine kWv (rnV C (ct_X3_markNewest l D cy Ad hap h) yv_X3_markNewest wq_479 ⟨rfl, rfl⟩ ⟨Nat.le_of_ble_eq_true rfl, Nat.le_of_ble_eq_true rfl⟩ ⟨Nat.zero_le _, Nat.zero_le _⟩ (vS_reading C hP) hP hl.1 rfl rfl (Nat.le_of_ble_eq_true rfl) dX3_scan_94) hS (fun _ h => h) (fun σ94 μ94 H locs h hP hk hS => ?_)
  exact endV C hS ⟨_, _, rfl, h, hP⟩ dX3_scan_97
def wb_X3_scan_73 (Q : Rg → Ar → Prop) (σ : Rg) (μ : Ar) (v4 : Int32) : Prop := (((σ 14) ≤ 0 → wb_X3_scan_90 Q σ μ v4) ∧ (¬ (σ 14) ≤ 0 → wb_X3_scan_90 Q σ μ (σ 11)))
set_option maxHeartbeats 4000000 in
set_option maxRecDepth 100000 in
theorem wk_X3_scan_73 {p : Program} {l : Launch} {e : Env} {s : State} {m : MethodId} {args : Array Value} {below : List Frame} {meth : Method} {c : Code} {D : va_G} {cy : ClassId} {Ad : Nat → Nat} (C : Cx p s m args meth c RX3 cX3_scan 6 (none : Option FieldType) D [(cy, .int)]) (hap : apt 18 Ad) {Q : Rg → Ar → Prop} {σ : Rg} {μ : Ar} {v4 : Int32} {H : Heap} {locs : List Loc} {ls : Array Slot} (h : wb_X3_scan_73 Q σ μ v4) (hP : va_P D vwCl (wS Ad cy σ μ) H) (hS : va_S (AS 18 Ad) s.heap H locs) (hl : lv_has ls 6 [(0, .ref (Ad 4)), (4, .int v4)]) : W p l e rmX3_scan s m args below meth c H locs 0 0 (MQ below (Qcg (PWv (wS Ad cy) D Q) (AS 18 Ad)) args s 0 0 (AS 18 Ad)) (F0 m 73 ls []) := by
  have hx := C.1
  have hb := C.2.1
  refine lv_aload_n hx hb dX3_scan_73 rfl (lv_at hl 0 rfl) ?_
  refine lv_aload_n hx hb dX3_scan_74 rfl (lv_at hl 0 rfl) ?_
  refine gS_reading_lost C hP (C.2.2.2.2.2.2.1 _ wq_229) dX3_scan_75 ?_
  refine lv_if_le (tgt := 88) hx hb dX3_scan_78 (by decide) (fun hc => ?_) (fun hc => ?_)
  · have h := h.1 hc
    refine lv_iload hx hb dX3_scan_88 (lv_at hl 1 rfl) ?_
    exact wk_X3_scan_90 C hap h hP hS (lv_sub hl [0] rfl)
  · have h := h.2 hc
    refine lv_aload_n hx hb dX3_scan_81 rfl (lv_at hl 0 rfl) ?_
    refine gS_reading_size C hP (C.2.2.2.2.2.2.1 _ wq_223) dX3_scan_82 ?_
    refine lv_goto (tgt := 90) hx hb dX3_scan_85 (by decide) ?_
    exact wk_X3_scan_90 C hap h hP hS (lv_sub hl [0] rfl)
def wb_X3_scan_39 (Q : Rg → Ar → Prop) (k39 : Rg → Ar → Int32 → Int32 → Int32 → Prop) (σ : Rg) (μ : Ar) (v3 : Int32) (v4 : Int32) (v5 : Int32) : Prop := (((41 : Int32) < v5 → wb_X3_scan_73 Q σ μ v4) ∧ (¬ (41 : Int32) < v5 → ((v3 ≤ v4 → wb_X3_scan_73 Q σ μ v4) ∧ (¬ v3 ≤ v4 → ((¬ (σ 14) = 0 → wb_X3_scan_73 Q σ μ v4) ∧ ((σ 14) = 0 → wp_X3_takeEntry σ μ v4 (fun r62 σ62 μ62 => ∀ y67 : Int32, y67 = v5 + (1 : Int32) → (k39 σ62 μ62 v3 r62 y67))))))))
set_option maxHeartbeats 4000000 in
set_option maxRecDepth 100000 in
theorem wk_X3_scan_39 {p : Program} {l : Launch} {e : Env} {s : State} {m : MethodId} {args : Array Value} {below : List Frame} {meth : Method} {c : Code} {D : va_G} {cy : ClassId} {Ad : Nat → Nat} (C : Cx p s m args meth c RX3 cX3_scan 6 (none : Option FieldType) D [(cy, .int)]) (hap : apt 18 Ad) {Q : Rg → Ar → Prop} {k39 : Rg → Ar → Int32 → Int32 → Int32 → Prop} (hk39 : ∀ {σ : Rg} {μ : Ar} {v3 : Int32} {v4 : Int32} {v5 : Int32} {H : Heap} {locs : List Loc} {ls : Array Slot}, k39 σ μ v3 v4 v5 → va_P D vwCl (wS Ad cy σ μ) H → va_S (AS 18 Ad) s.heap H locs → lv_has ls 6 [(0, .ref (Ad 4)), (3, .int v3), (4, .int v4), (5, .int v5)] → W p l e rmX3_scan s m args below meth c H locs 0 0 (MQ below (Qcg (PWv (wS Ad cy) D Q) (AS 18 Ad)) args s 0 0 (AS 18 Ad)) (F0 m 39 ls [])) {σ : Rg} {μ : Ar} {v3 : Int32} {v4 : Int32} {v5 : Int32} {H : Heap} {locs : List Loc} {ls : Array Slot} (h : wb_X3_scan_39 Q k39 σ μ v3 v4 v5) (hP : va_P D vwCl (wS Ad cy σ μ) H) (hS : va_S (AS 18 Ad) s.heap H locs) (hl : lv_has ls 6 [(0, .ref (Ad 4)), (3, .int v3), (4, .int v4), (5, .int v5)]) : W p l e rmX3_scan s m args below meth c H locs 0 0 (MQ below (Qcg (PWv (wS Ad cy) D Q) (AS 18 Ad)) args s 0 0 (AS 18 Ad)) (F0 m 39 ls []) := by
  have hx := C.1
  have hb := C.2.1
  refine lv_iload hx hb dX3_scan_39 (lv_at hl 3 rfl) ?_
  refine lv_bipush (v := 41) hx hb dX3_scan_41 (by decide) ?_
  refine lv_icmp_gt (tgt := 73) hx hb dX3_scan_43 (by decide) (fun hc => ?_) (fun hc => ?_)
  · have h := h.1 hc
    exact wk_X3_scan_73 C hap h hP hS (lv_sub hl [0, 2] rfl)
  · have h := h.2 hc
    refine lv_iload hx hb dX3_scan_46 (lv_at hl 2 rfl) ?_
    refine lv_iload_n hx hb dX3_scan_48 rfl (lv_at hl 1 rfl) ?_
    refine lv_icmp_ge (tgt := 73) hx hb dX3_scan_49 (by decide) (fun hc => ?_) (fun hc => ?_)
    · have h := h.1 hc
      exact wk_X3_scan_73 C hap h hP hS (lv_sub hl [0, 2] rfl)
    · have h := h.2 hc
      refine lv_aload_n hx hb dX3_scan_52 rfl (lv_at hl 0 rfl) ?_
      refine gS_reading_lost C hP (C.2.2.2.2.2.2.1 _ wq_229) dX3_scan_53 ?_
      refine lv_if_ne (tgt := 73) hx hb dX3_scan_56 (by decide) (fun hc => ?_) (fun hc => ?_)
      · have h := h.1 hc
        exact wk_X3_scan_73 C hap h hP hS (lv_sub hl [0, 2] rfl)
      · have h := h.2 hc
        refine lv_aload_n hx hb dX3_scan_59 rfl (lv_at hl 0 rfl) ?_
        refine lv_iload hx hb dX3_scan_60 (lv_at hl 2 rfl) ?_
        refine kWi (rnV C (ct_X3_takeEntry l D cy Ad hap h) yv_X3_takeEntry wq_451 ⟨rfl, rfl⟩ ⟨Nat.le_of_ble_eq_true rfl, Nat.le_of_ble_eq_true rfl⟩ ⟨Nat.zero_le _, Nat.zero_le _⟩ (vS_reading C hP) hP hl.1 rfl rfl (Nat.le_of_ble_eq_true rfl) dX3_scan_62) hS (fun _ h => h) (fun r62 σ62 μ62 H locs h hP hk hS => ?_)
        refine lv_istore (lv' := [(4, .int r62), (0, .ref (Ad 4)), (3, .int v3), (5, .int v5)]) hx hb dX3_scan_65 hl (by decide) rfl (fun ls hl => ?_)
        obtain ⟨y67, e67⟩ : ∃ y : Int32, y = v5 + (1 : Int32) := ⟨_, rfl⟩
        have h := h y67 e67
        refine lv_iinc (v := y67) (lv' := [(5, .int y67), (4, .int r62), (0, .ref (Ad 4)), (3, .int v3)]) hx hb dX3_scan_67 hl (k := 3) rfl (by rw [e67]; rfl) (by decide) rfl (fun ls hl => ?_)
        refine lv_goto (tgt := 39) hx hb dX3_scan_70 (by decide) ?_
        exact hk39 h hP hS (lv_sub hl [2, 3, 1, 0] rfl)
def wl_X3_scan_39 (Q : Rg → Ar → Prop) (n : Nat) : Rg → Ar → Int32 → Int32 → Int32 → Prop := Nat.rec (motive := fun _ => Rg → Ar → Int32 → Int32 → Int32 → Prop) (fun _ _ _ _ _ => False) (fun _ k => wb_X3_scan_39 Q k) n
set_option maxHeartbeats 4000000 in
theorem wkl_X3_scan_39 {p : Program} {l : Launch} {e : Env} {s : State} {m : MethodId} {args : Array Value} {below : List Frame} {meth : Method} {c : Code} {D : va_G} {cy : ClassId} {Ad : Nat → Nat} (C : Cx p s m args meth c RX3 cX3_scan 6 (none : Option FieldType) D [(cy, .int)]) (hap : apt 18 Ad) {Q : Rg → Ar → Prop}  : ∀ (n : Nat) {σ : Rg} {μ : Ar} {v3 : Int32} {v4 : Int32} {v5 : Int32} {H : Heap} {locs : List Loc} {ls : Array Slot} (h : wl_X3_scan_39 Q  n σ μ v3 v4 v5) (hP : va_P D vwCl (wS Ad cy σ μ) H) (hS : va_S (AS 18 Ad) s.heap H locs) (hl : lv_has ls 6 [(0, .ref (Ad 4)), (3, .int v3), (4, .int v4), (5, .int v5)]), W p l e rmX3_scan s m args below meth c H locs 0 0 (MQ below (Qcg (PWv (wS Ad cy) D Q) (AS 18 Ad)) args s 0 0 (AS 18 Ad)) (F0 m 39 ls []) := by
  intro n
  induction n with
  | zero => intro σ μ v3 v4 v5 H locs ls h; exact h.elim
  | succ n ih =>
    intro σ μ v3 v4 v5 H locs ls h hP hS hl
    exact wk_X3_scan_39 C hap (fun h hP hS hl => ih h hP hS hl) h hP hS hl
def wp_X3_scan (σ : Rg) (μ : Ar) (x2 : Int32) (Q : Rg → Ar → Prop) : Prop := ∀ σ5 : Rg, σ5 = upd σ 11 (σ 4) → (wp_X1_copySector σ5 μ x2 (fun σ14 μ14 => ∀ σ19 : Rg, σ19 = upd σ14 12 (0 : Int32) → (∀ σ24 : Rg, σ24 = upd σ19 14 (0 : Int32) → (wp_X1_usedEnd σ24 μ14 x2 (fun r29 σ29 μ29 => ∃ n, wl_X3_scan_39 Q n σ29 μ29 r29 (4 : Int32) (0 : Int32))))))
set_option maxHeartbeats 4000000 in
set_option maxRecDepth 100000 in
theorem ct_X3_scan (l : Launch) (D : va_G) (cy : ClassId) (Ad : Nat → Nat) (hap : apt 18 Ad) {σ : Rg} {μ : Ar} {x2 : Int32} {Q : Rg → Ar → Prop} (h : wp_X3_scan σ μ x2 Q) : Ct l yX3_scan cX3_scan 6 (none : Option FieldType) rmX3_scan D [(cy, .int)] (fun H => va_P D vwCl (wS Ad cy σ μ) H) [.ref (Ad 4), .ref (Ad 1), .int x2] (AS 18 Ad) (PWv (wS Ad cy) D Q) := by
  refine Ct.of (by decide) (Nat.le_of_ble_eq_true rfl) ?_
  intro p e s m below meth c ls C hP hl
  have hl : lv_has ls 6 [(0, .ref (Ad 4)), (1, .ref (Ad 1)), (2, .int x2)] := hl
  have hS : va_S (AS 18 Ad) s.heap s.heap [] := va_S.rf
  have hx := C.1
  have hb := C.2.1
  refine lv_aload_n hx hb dX3_scan_0 rfl (lv_at hl 0 rfl) ?_
  refine lv_aload_n hx hb dX3_scan_1 rfl (lv_at hl 1 rfl) ?_
  refine gnS_chip_size C hP (NW.use C.2.2.2.2.2.2.2.2 wn_173) dX3_scan_2 ?_
  refine pS_reading_size C hap (fun _ h => h) hP hS (C.2.2.2.2.2.2.1 _ wq_223) dX3_scan_5 (fun H locs hP hS => ?_)
  obtain ⟨σ5, e5⟩ : ∃ z : Rg, z = upd σ 11 (σ 4) := ⟨_, rfl⟩
  have hP : va_P D vwCl (wS Ad cy σ5 μ) H := by rw [e5]; exact hP
  have h := h σ5 e5
  refine lv_aload_n hx hb dX3_scan_8 rfl (lv_at hl 1 rfl) ?_
  refine lv_iload_n hx hb dX3_scan_9 rfl (lv_at hl 2 rfl) ?_
  refine lv_aload_n hx hb dX3_scan_10 rfl (lv_at hl 0 rfl) ?_
  refine gS_reading_row C hP (C.2.2.2.2.2.2.1 _ wq_216) dX3_scan_11 ?_
  refine kWv (rnVN C (ct_X1_copySector l D cy Ad hap h) yv_X1_copySector wn_446 ⟨rfl, rfl⟩ ⟨Nat.le_of_ble_eq_true rfl, Nat.le_of_ble_eq_true rfl⟩ ⟨Nat.zero_le _, Nat.zero_le _⟩ (vS_chip C hP) hP hl.1 rfl rfl (Nat.le_of_ble_eq_true rfl) dX3_scan_14) hS (fun _ h => h) (fun σ14 μ14 H locs h hP hk hS => ?_)
  refine lv_aload_n hx hb dX3_scan_17 rfl (lv_at hl 0 rfl) ?_
  refine lv_iconst (v := 0) hx hb dX3_scan_18 (by decide) ?_
  refine pS_reading_entries C hap (fun _ h => h) hP hS (C.2.2.2.2.2.2.1 _ wq_224) dX3_scan_19 (fun H locs hP hS => ?_)
  obtain ⟨σ19, e19⟩ : ∃ z : Rg, z = upd σ14 12 (0 : Int32) := ⟨_, rfl⟩
  have hP : va_P D vwCl (wS Ad cy σ19 μ14) H := by rw [e19]; exact hP
  have h := h σ19 e19
  refine lv_aload_n hx hb dX3_scan_22 rfl (lv_at hl 0 rfl) ?_
  refine lv_iconst (v := 0) hx hb dX3_scan_23 (by decide) ?_
  refine pS_reading_lost C hap (fun _ h => h) hP hS (C.2.2.2.2.2.2.1 _ wq_229) dX3_scan_24 (fun H locs hP hS => ?_)
  obtain ⟨σ24, e24⟩ : ∃ z : Rg, z = upd σ19 14 (0 : Int32) := ⟨_, rfl⟩
  have hP : va_P D vwCl (wS Ad cy σ24 μ14) H := by rw [e24]; exact hP
  have h := h σ24 e24
  refine lv_aload_n hx hb dX3_scan_27 rfl (lv_at hl 1 rfl) ?_
  refine lv_iload_n hx hb dX3_scan_28 rfl (lv_at hl 2 rfl) ?_
  refine kWi (rnVN C (ct_X1_usedEnd l D cy Ad hap h) yv_X1_usedEnd wn_450 ⟨rfl, rfl⟩ ⟨Nat.le_of_ble_eq_true rfl, Nat.le_of_ble_eq_true rfl⟩ ⟨Nat.zero_le _, Nat.zero_le _⟩ (vS_chip C hP) hP hl.1 rfl rfl (Nat.le_of_ble_eq_true rfl) dX3_scan_29) hS (fun _ h => h) (fun r29 σ29 μ29 H locs h hP hk hS => ?_)
  refine lv_istore_n (lv' := [(3, .int r29), (0, .ref (Ad 4)), (1, .ref (Ad 1)), (2, .int x2)]) hx hb dX3_scan_32 rfl hl (by decide) rfl (fun ls hl => ?_)
  refine lv_iconst (v := 4) hx hb dX3_scan_33 (by decide) ?_
  refine lv_istore (lv' := [(4, .int (4 : Int32)), (3, .int r29), (0, .ref (Ad 4)), (1, .ref (Ad 1)), (2, .int x2)]) hx hb dX3_scan_34 hl (by decide) rfl (fun ls hl => ?_)
  refine lv_iconst (v := 0) hx hb dX3_scan_36 (by decide) ?_
  refine lv_istore (lv' := [(5, .int (0 : Int32)), (4, .int (4 : Int32)), (3, .int r29), (0, .ref (Ad 4)), (1, .ref (Ad 1)), (2, .int x2)]) hx hb dX3_scan_37 hl (by decide) rfl (fun ls hl => ?_)
  obtain ⟨n, h⟩ := h
  exact wkl_X3_scan_39 C hap n h hP hS (lv_sub hl [3, 2, 1, 0] rfl)
abbrev rmX3_tell : Room := { frames := 1, cells := 0, slots := 0, locals := 21 }
def wp_X3_tell (σ : Rg) (μ : Ar) (x1 : Int32) (x2 : Int32) (Q : Int32 → Rg → Ar → Prop) : Prop := wp_X3_has σ μ x1 (fun r2 σ2 μ2 => ((¬ r2 = 0 → (((x2).toInt < 0 ∨ 4 < (x2).toInt → Q (-1 : Int32) σ2 μ2) ∧ (x2 = 0 → (vp_in x1 41) ∧ (Q (μ2 3 (x1).toNatClampNeg) σ2 μ2)) ∧ (x2 = 1 → (vp_in x1 41) ∧ (Q (μ2 5 (x1).toNatClampNeg) σ2 μ2)) ∧ (x2 = 2 → (vp_in x1 41) ∧ (Q (μ2 4 (x1).toNatClampNeg) σ2 μ2)) ∧ (x2 = 3 → (vp_in x1 41) ∧ (Q (μ2 6 (x1).toNatClampNeg) σ2 μ2)) ∧ (x2 = 4 → (vp_in x1 41) ∧ (Q (μ2 7 (x1).toNatClampNeg) σ2 μ2)))) ∧ (r2 = 0 → Q (-1 : Int32) σ2 μ2)))
set_option maxHeartbeats 4000000 in
set_option maxRecDepth 100000 in
theorem ct_X3_tell (l : Launch) (D : va_G) (cy : ClassId) (Ad : Nat → Nat) (hap : apt 18 Ad) {σ : Rg} {μ : Ar} {x1 : Int32} {x2 : Int32} {Q : Int32 → Rg → Ar → Prop} (h : wp_X3_tell σ μ x1 x2 Q) : Ct l yX3_tell cX3_tell 3 (some FieldType.int) rmX3_tell D [(cy, .int)] (fun H => va_P D vwCl (wS Ad cy σ μ) H) [.ref (Ad 4), .int x1, .int x2] (AS 18 Ad) (PWi (wS Ad cy) D Q) := by
  refine Ct.of (by decide) (Nat.le_of_ble_eq_true rfl) ?_
  intro p e s m below meth c ls C hP hl
  have hl : lv_has ls 3 [(0, .ref (Ad 4)), (1, .int x1), (2, .int x2)] := hl
  have hS : va_S (AS 18 Ad) s.heap s.heap [] := va_S.rf
  have hx := C.1
  have hb := C.2.1
  refine lv_aload_n hx hb dX3_tell_0 rfl (lv_at hl 0 rfl) ?_
  refine lv_iload_n hx hb dX3_tell_1 rfl (lv_at hl 1 rfl) ?_
  refine kWi (rnV C (ct_X3_has l D cy Ad hap h) yv_X3_has wq_475 ⟨rfl, rfl⟩ ⟨Nat.le_of_ble_eq_true rfl, Nat.le_of_ble_eq_true rfl⟩ ⟨Nat.zero_le _, Nat.zero_le _⟩ (vS_reading C hP) hP hl.1 rfl rfl (Nat.le_of_ble_eq_true rfl) dX3_tell_2) hS (fun _ h => h) (fun r2 σ2 μ2 H locs h hP hk hS => ?_)
  refine lv_if_ne (tgt := 10) hx hb dX3_tell_5 (by decide) (fun hc => ?_) (fun hc => ?_)
  · have h := h.1 hc
    refine lv_iload_n hx hb dX3_tell_10 rfl (lv_at hl 2 rfl) ?_
    by_cases hc : (x2).toInt < 0 ∨ 4 < (x2).toInt
    · have h := h.1 hc
      refine lv_tableOut (tgt := 79) hx hb dX3_tell_11 hc (by decide) ?_
      refine lv_iconst (v := -1) hx hb dX3_tell_79 (by decide) ?_
      exact endI C hS ⟨_, _, _, rfl, h, hP⟩ dX3_tell_80
    · have hr : (x2).toInt = 0 ∨ (x2).toInt = 1 ∨ (x2).toInt = 2 ∨ (x2).toInt = 3 ∨ (x2).toInt = 4 := by omega
      rcases hr with hr | hr | hr | hr | hr
      · have h := h.2.1 (Int32.toInt_inj.mp (by rw [hr]; rfl))
        refine lv_tableIn (off := 33) (tgt := 44) hx hb dX3_tell_11 (by omega) (by omega) (by rw [hr]; rfl) (by decide) ?_
        refine lv_aload_n hx hb dX3_tell_44 rfl (lv_at hl 0 rfl) ?_
        refine gS_reading_places C hP (C.2.2.2.2.2.2.1 _ wq_217) dX3_tell_45 ?_
        refine lv_iload_n hx hb dX3_tell_48 rfl (lv_at hl 1 rfl) ?_
        obtain ⟨hc, h⟩ := h
        refine lS_3 C hP hc dX3_tell_49 ?_
        exact endI C hS ⟨_, _, _, rfl, h, hP⟩ dX3_tell_50
      · have h := h.2.2.1 (Int32.toInt_inj.mp (by rw [hr]; rfl))
        refine lv_tableIn (off := 40) (tgt := 51) hx hb dX3_tell_11 (by omega) (by omega) (by rw [hr]; rfl) (by decide) ?_
        refine lv_aload_n hx hb dX3_tell_51 rfl (lv_at hl 0 rfl) ?_
        refine gS_reading_labels C hP (C.2.2.2.2.2.2.1 _ wq_219) dX3_tell_52 ?_
        refine lv_iload_n hx hb dX3_tell_55 rfl (lv_at hl 1 rfl) ?_
        obtain ⟨hc, h⟩ := h
        refine lS_5 C hP hc dX3_tell_56 ?_
        exact endI C hS ⟨_, _, _, rfl, h, hP⟩ dX3_tell_57
      · have h := h.2.2.2.1 (Int32.toInt_inj.mp (by rw [hr]; rfl))
        refine lv_tableIn (off := 47) (tgt := 58) hx hb dX3_tell_11 (by omega) (by omega) (by rw [hr]; rfl) (by decide) ?_
        refine lv_aload_n hx hb dX3_tell_58 rfl (lv_at hl 0 rfl) ?_
        refine gS_reading_kinds C hP (C.2.2.2.2.2.2.1 _ wq_218) dX3_tell_59 ?_
        refine lv_iload_n hx hb dX3_tell_62 rfl (lv_at hl 1 rfl) ?_
        obtain ⟨hc, h⟩ := h
        refine lS_4 C hP hc dX3_tell_63 ?_
        exact endI C hS ⟨_, _, _, rfl, h, hP⟩ dX3_tell_64
      · have h := h.2.2.2.2.1 (Int32.toInt_inj.mp (by rw [hr]; rfl))
        refine lv_tableIn (off := 54) (tgt := 65) hx hb dX3_tell_11 (by omega) (by omega) (by rw [hr]; rfl) (by decide) ?_
        refine lv_aload_n hx hb dX3_tell_65 rfl (lv_at hl 0 rfl) ?_
        refine gS_reading_sizes C hP (C.2.2.2.2.2.2.1 _ wq_220) dX3_tell_66 ?_
        refine lv_iload_n hx hb dX3_tell_69 rfl (lv_at hl 1 rfl) ?_
        obtain ⟨hc, h⟩ := h
        refine lS_6 C hP hc dX3_tell_70 ?_
        exact endI C hS ⟨_, _, _, rfl, h, hP⟩ dX3_tell_71
      · have h := h.2.2.2.2.2 (Int32.toInt_inj.mp (by rw [hr]; rfl))
        refine lv_tableIn (off := 61) (tgt := 72) hx hb dX3_tell_11 (by omega) (by omega) (by rw [hr]; rfl) (by decide) ?_
        refine lv_aload_n hx hb dX3_tell_72 rfl (lv_at hl 0 rfl) ?_
        refine gS_reading_marks C hP (C.2.2.2.2.2.2.1 _ wq_221) dX3_tell_73 ?_
        refine lv_iload_n hx hb dX3_tell_76 rfl (lv_at hl 1 rfl) ?_
        obtain ⟨hc, h⟩ := h
        refine lS_7 C hP hc dX3_tell_77 ?_
        exact endI C hS ⟨_, _, _, rfl, h, hP⟩ dX3_tell_78
  · have h := h.2 hc
    refine lv_iconst (v := -1) hx hb dX3_tell_8 (by decide) ?_
    exact endI C hS ⟨_, _, _, rfl, h, hP⟩ dX3_tell_9
abbrev rmX3_freeBytes : Room := { frames := 0, cells := 0, slots := 0, locals := 0 }
def wp_X3_freeBytes (σ : Rg) (μ : Ar) (Q : Int32 → Rg → Ar → Prop) : Prop := Q ((σ 11) - (σ 13)) σ μ
set_option maxHeartbeats 4000000 in
set_option maxRecDepth 100000 in
theorem ct_X3_freeBytes (l : Launch) (D : va_G) (cy : ClassId) (Ad : Nat → Nat) (hap : apt 18 Ad) {σ : Rg} {μ : Ar}  {Q : Int32 → Rg → Ar → Prop} (h : wp_X3_freeBytes σ μ  Q) : Ct l yX3_freeBytes cX3_freeBytes 1 (some FieldType.int) rmX3_freeBytes D [(cy, .int)] (fun H => va_P D vwCl (wS Ad cy σ μ) H) [.ref (Ad 4)] (AS 18 Ad) (PWi (wS Ad cy) D Q) := by
  refine Ct.of (by decide) (Nat.le_of_ble_eq_true rfl) ?_
  intro p e s m below meth c ls C hP hl
  have hl : lv_has ls 1 [(0, .ref (Ad 4))] := hl
  have hS : va_S (AS 18 Ad) s.heap s.heap [] := va_S.rf
  have hx := C.1
  have hb := C.2.1
  refine lv_aload_n hx hb dX3_freeBytes_0 rfl (lv_at hl 0 rfl) ?_
  refine gS_reading_size C hP (C.2.2.2.2.2.2.1 _ wq_223) dX3_freeBytes_1 ?_
  refine lv_aload_n hx hb dX3_freeBytes_4 rfl (lv_at hl 0 rfl) ?_
  refine gS_reading_free C hP (C.2.2.2.2.2.2.1 _ wq_226) dX3_freeBytes_5 ?_
  refine lv_isub hx hb dX3_freeBytes_8 ?_
  exact endI C hS ⟨_, _, _, rfl, h, hP⟩ dX3_freeBytes_9
abbrev rmX3_newestOf : Room := { frames := 0, cells := 0, slots := 0, locals := 0 }
def wb_X3_newestOf_23 (Q : Int32 → Rg → Ar → Prop) (σ : Rg) (μ : Ar) (t0 : Int32) : Prop := Q t0 σ μ
set_option maxHeartbeats 4000000 in
set_option maxRecDepth 100000 in
theorem wk_X3_newestOf_23 {p : Program} {l : Launch} {e : Env} {s : State} {m : MethodId} {args : Array Value} {below : List Frame} {meth : Method} {c : Code} {D : va_G} {cy : ClassId} {Ad : Nat → Nat} (C : Cx p s m args meth c RX3 cX3_newestOf 2 (some FieldType.int) D [(cy, .int)]) (hap : apt 18 Ad) {Q : Int32 → Rg → Ar → Prop} {σ : Rg} {μ : Ar} {t0 : Int32} {H : Heap} {locs : List Loc} {ls : Array Slot} (h : wb_X3_newestOf_23 Q σ μ t0) (hP : va_P D vwCl (wS Ad cy σ μ) H) (hS : va_S (AS 18 Ad) s.heap H locs) (hl : lv_has ls 2 []) : W p l e rmX3_newestOf s m args below meth c H locs 0 0 (MQ below (Qcg (PWi (wS Ad cy) D Q) (AS 18 Ad)) args s 0 0 (AS 18 Ad)) (F0 m 23 ls [.int t0]) := by
  have hx := C.1
  have hb := C.2.1
  exact endI C hS ⟨_, _, _, rfl, h, hP⟩ dX3_newestOf_23
def wb_X3_newestOf_22 (Q : Int32 → Rg → Ar → Prop) (σ : Rg) (μ : Ar) : Prop := wb_X3_newestOf_23 Q σ μ (-1 : Int32)
set_option maxHeartbeats 4000000 in
set_option maxRecDepth 100000 in
theorem wk_X3_newestOf_22 {p : Program} {l : Launch} {e : Env} {s : State} {m : MethodId} {args : Array Value} {below : List Frame} {meth : Method} {c : Code} {D : va_G} {cy : ClassId} {Ad : Nat → Nat} (C : Cx p s m args meth c RX3 cX3_newestOf 2 (some FieldType.int) D [(cy, .int)]) (hap : apt 18 Ad) {Q : Int32 → Rg → Ar → Prop} {σ : Rg} {μ : Ar}  {H : Heap} {locs : List Loc} {ls : Array Slot} (h : wb_X3_newestOf_22 Q σ μ) (hP : va_P D vwCl (wS Ad cy σ μ) H) (hS : va_S (AS 18 Ad) s.heap H locs) (hl : lv_has ls 2 []) : W p l e rmX3_newestOf s m args below meth c H locs 0 0 (MQ below (Qcg (PWi (wS Ad cy) D Q) (AS 18 Ad)) args s 0 0 (AS 18 Ad)) (F0 m 22 ls []) := by
  have hx := C.1
  have hb := C.2.1
  refine lv_iconst (v := -1) hx hb dX3_newestOf_22 (by decide) ?_
  exact wk_X3_newestOf_23 C hap h hP hS (lv_sub hl [] rfl)
def wp_X3_newestOf (σ : Rg) (μ : Ar) (x1 : Int32) (Q : Int32 → Rg → Ar → Prop) : Prop := ((x1 < 0 → wb_X3_newestOf_22 Q σ μ) ∧ (¬ x1 < 0 → (((48 : Int32) ≤ x1 → wb_X3_newestOf_22 Q σ μ) ∧ (¬ (48 : Int32) ≤ x1 → (vp_in x1 48) ∧ (wb_X3_newestOf_23 Q σ μ (μ 8 (x1).toNatClampNeg))))))
set_option maxHeartbeats 4000000 in
set_option maxRecDepth 100000 in
theorem ct_X3_newestOf (l : Launch) (D : va_G) (cy : ClassId) (Ad : Nat → Nat) (hap : apt 18 Ad) {σ : Rg} {μ : Ar} {x1 : Int32} {Q : Int32 → Rg → Ar → Prop} (h : wp_X3_newestOf σ μ x1 Q) : Ct l yX3_newestOf cX3_newestOf 2 (some FieldType.int) rmX3_newestOf D [(cy, .int)] (fun H => va_P D vwCl (wS Ad cy σ μ) H) [.ref (Ad 4), .int x1] (AS 18 Ad) (PWi (wS Ad cy) D Q) := by
  refine Ct.of (by decide) (Nat.le_of_ble_eq_true rfl) ?_
  intro p e s m below meth c ls C hP hl
  have hl : lv_has ls 2 [(0, .ref (Ad 4)), (1, .int x1)] := hl
  have hS : va_S (AS 18 Ad) s.heap s.heap [] := va_S.rf
  have hx := C.1
  have hb := C.2.1
  refine lv_iload_n hx hb dX3_newestOf_0 rfl (lv_at hl 1 rfl) ?_
  refine lv_if_lt (tgt := 22) hx hb dX3_newestOf_1 (by decide) (fun hc => ?_) (fun hc => ?_)
  · have h := h.1 hc
    exact wk_X3_newestOf_22 C hap h hP hS (lv_sub hl [] rfl)
  · have h := h.2 hc
    refine lv_iload_n hx hb dX3_newestOf_4 rfl (lv_at hl 1 rfl) ?_
    refine lv_aload_n hx hb dX3_newestOf_5 rfl (lv_at hl 0 rfl) ?_
    refine gS_reading_newest C hP (C.2.2.2.2.2.2.1 _ wq_222) dX3_newestOf_6 ?_
    refine nS_8 C hP dX3_newestOf_9 ?_
    refine lv_icmp_ge (tgt := 22) hx hb dX3_newestOf_10 (by decide) (fun hc => ?_) (fun hc => ?_)
    · have h := h.1 hc
      exact wk_X3_newestOf_22 C hap h hP hS (lv_sub hl [] rfl)
    · have h := h.2 hc
      refine lv_aload_n hx hb dX3_newestOf_13 rfl (lv_at hl 0 rfl) ?_
      refine gS_reading_newest C hP (C.2.2.2.2.2.2.1 _ wq_222) dX3_newestOf_14 ?_
      refine lv_iload_n hx hb dX3_newestOf_17 rfl (lv_at hl 1 rfl) ?_
      obtain ⟨hc, h⟩ := h
      refine lS_8 C hP hc dX3_newestOf_18 ?_
      refine lv_goto (tgt := 23) hx hb dX3_newestOf_19 (by decide) ?_
      exact wk_X3_newestOf_23 C hap h hP hS (lv_sub hl [] rfl)
abbrev rmX3_valuedSize : Room := { frames := 1, cells := 0, slots := 0, locals := 21 }
def wb_X3_valuedSize_34 (Q : Int32 → Rg → Ar → Prop) (σ : Rg) (μ : Ar) (t0 : Int32) : Prop := Q t0 σ μ
set_option maxHeartbeats 4000000 in
set_option maxRecDepth 100000 in
theorem wk_X3_valuedSize_34 {p : Program} {l : Launch} {e : Env} {s : State} {m : MethodId} {args : Array Value} {below : List Frame} {meth : Method} {c : Code} {D : va_G} {cy : ClassId} {Ad : Nat → Nat} (C : Cx p s m args meth c RX3 cX3_valuedSize 3 (some FieldType.int) D [(cy, .int)]) (hap : apt 18 Ad) {Q : Int32 → Rg → Ar → Prop} {σ : Rg} {μ : Ar} {t0 : Int32} {H : Heap} {locs : List Loc} {ls : Array Slot} (h : wb_X3_valuedSize_34 Q σ μ t0) (hP : va_P D vwCl (wS Ad cy σ μ) H) (hS : va_S (AS 18 Ad) s.heap H locs) (hl : lv_has ls 3 []) : W p l e rmX3_valuedSize s m args below meth c H locs 0 0 (MQ below (Qcg (PWi (wS Ad cy) D Q) (AS 18 Ad)) args s 0 0 (AS 18 Ad)) (F0 m 34 ls [.int t0]) := by
  have hx := C.1
  have hb := C.2.1
  exact endI C hS ⟨_, _, _, rfl, h, hP⟩ dX3_valuedSize_34
def wb_X3_valuedSize_33 (Q : Int32 → Rg → Ar → Prop) (σ : Rg) (μ : Ar) : Prop := wb_X3_valuedSize_34 Q σ μ (0 : Int32)
set_option maxHeartbeats 4000000 in
set_option maxRecDepth 100000 in
theorem wk_X3_valuedSize_33 {p : Program} {l : Launch} {e : Env} {s : State} {m : MethodId} {args : Array Value} {below : List Frame} {meth : Method} {c : Code} {D : va_G} {cy : ClassId} {Ad : Nat → Nat} (C : Cx p s m args meth c RX3 cX3_valuedSize 3 (some FieldType.int) D [(cy, .int)]) (hap : apt 18 Ad) {Q : Int32 → Rg → Ar → Prop} {σ : Rg} {μ : Ar}  {H : Heap} {locs : List Loc} {ls : Array Slot} (h : wb_X3_valuedSize_33 Q σ μ) (hP : va_P D vwCl (wS Ad cy σ μ) H) (hS : va_S (AS 18 Ad) s.heap H locs) (hl : lv_has ls 3 []) : W p l e rmX3_valuedSize s m args below meth c H locs 0 0 (MQ below (Qcg (PWi (wS Ad cy) D Q) (AS 18 Ad)) args s 0 0 (AS 18 Ad)) (F0 m 33 ls []) := by
  have hx := C.1
  have hb := C.2.1
  refine lv_iconst (v := 0) hx hb dX3_valuedSize_33 (by decide) ?_
  exact wk_X3_valuedSize_34 C hap h hP hS (lv_sub hl [] rfl)
def wp_X3_valuedSize (σ : Rg) (μ : Ar) (x1 : Int32) (Q : Int32 → Rg → Ar → Prop) : Prop := wp_X3_newestOf σ μ x1 (fun r2 σ2 μ2 => wp_X3_has σ2 μ2 r2 (fun r8 σ8 μ8 => ((r8 = 0 → wb_X3_valuedSize_33 Q σ8 μ8) ∧ (¬ r8 = 0 → (vp_in r2 41) ∧ ((((μ8 6 (r2).toNatClampNeg) ≤ (3 : Int32) → wb_X3_valuedSize_33 Q σ8 μ8) ∧ (¬ (μ8 6 (r2).toNatClampNeg) ≤ (3 : Int32) → (vp_in r2 41) ∧ (wb_X3_valuedSize_34 Q σ8 μ8 (μ8 6 (r2).toNatClampNeg)))))))))
set_option maxHeartbeats 4000000 in
set_option maxRecDepth 100000 in
theorem ct_X3_valuedSize (l : Launch) (D : va_G) (cy : ClassId) (Ad : Nat → Nat) (hap : apt 18 Ad) {σ : Rg} {μ : Ar} {x1 : Int32} {Q : Int32 → Rg → Ar → Prop} (h : wp_X3_valuedSize σ μ x1 Q) : Ct l yX3_valuedSize cX3_valuedSize 3 (some FieldType.int) rmX3_valuedSize D [(cy, .int)] (fun H => va_P D vwCl (wS Ad cy σ μ) H) [.ref (Ad 4), .int x1] (AS 18 Ad) (PWi (wS Ad cy) D Q) := by
  refine Ct.of (by decide) (Nat.le_of_ble_eq_true rfl) ?_
  intro p e s m below meth c ls C hP hl
  have hl : lv_has ls 3 [(0, .ref (Ad 4)), (1, .int x1)] := hl
  have hS : va_S (AS 18 Ad) s.heap s.heap [] := va_S.rf
  have hx := C.1
  have hb := C.2.1
  refine lv_aload_n hx hb dX3_valuedSize_0 rfl (lv_at hl 0 rfl) ?_
  refine lv_iload_n hx hb dX3_valuedSize_1 rfl (lv_at hl 1 rfl) ?_
  refine kWi (rnV C (ct_X3_newestOf l D cy Ad hap h) yv_X3_newestOf wq_499 ⟨rfl, rfl⟩ ⟨Nat.le_of_ble_eq_true rfl, Nat.le_of_ble_eq_true rfl⟩ ⟨Nat.zero_le _, Nat.zero_le _⟩ (vS_reading C hP) hP hl.1 rfl rfl (Nat.le_of_ble_eq_true rfl) dX3_valuedSize_2) hS (fun _ h => h) (fun r2 σ2 μ2 H locs h hP hk hS => ?_)
  refine lv_istore_n (lv' := [(2, .int r2), (0, .ref (Ad 4)), (1, .int x1)]) hx hb dX3_valuedSize_5 rfl hl (by decide) rfl (fun ls hl => ?_)
  refine lv_aload_n hx hb dX3_valuedSize_6 rfl (lv_at hl 1 rfl) ?_
  refine lv_iload_n hx hb dX3_valuedSize_7 rfl (lv_at hl 0 rfl) ?_
  refine kWi (rnV C (ct_X3_has l D cy Ad hap h) yv_X3_has wq_475 ⟨rfl, rfl⟩ ⟨Nat.le_of_ble_eq_true rfl, Nat.le_of_ble_eq_true rfl⟩ ⟨Nat.zero_le _, Nat.zero_le _⟩ (vS_reading C hP) hP hl.1 rfl rfl (Nat.le_of_ble_eq_true rfl) dX3_valuedSize_8) hS (fun _ h => h) (fun r8 σ8 μ8 H locs h hP hk hS => ?_)
  refine lv_if_eq (tgt := 33) hx hb dX3_valuedSize_11 (by decide) (fun hc => ?_) (fun hc => ?_)
  · have h := h.1 hc
    exact wk_X3_valuedSize_33 C hap h hP hS (lv_sub hl [] rfl)
  · have h := h.2 hc
    refine lv_aload_n hx hb dX3_valuedSize_14 rfl (lv_at hl 1 rfl) ?_
    refine gS_reading_sizes C hP (C.2.2.2.2.2.2.1 _ wq_220) dX3_valuedSize_15 ?_
    refine lv_iload_n hx hb dX3_valuedSize_18 rfl (lv_at hl 0 rfl) ?_
    obtain ⟨hc, h⟩ := h
    refine lS_6 C hP hc dX3_valuedSize_19 ?_
    refine lv_iconst (v := 3) hx hb dX3_valuedSize_20 (by decide) ?_
    refine lv_icmp_le (tgt := 33) hx hb dX3_valuedSize_21 (by decide) (fun hc => ?_) (fun hc => ?_)
    · have h := h.1 hc
      exact wk_X3_valuedSize_33 C hap h hP hS (lv_sub hl [] rfl)
    · have h := h.2 hc
      refine lv_aload_n hx hb dX3_valuedSize_24 rfl (lv_at hl 1 rfl) ?_
      refine gS_reading_sizes C hP (C.2.2.2.2.2.2.1 _ wq_220) dX3_valuedSize_25 ?_
      refine lv_iload_n hx hb dX3_valuedSize_28 rfl (lv_at hl 0 rfl) ?_
      obtain ⟨hc, h⟩ := h
      refine lS_6 C hP hc dX3_valuedSize_29 ?_
      refine lv_goto (tgt := 34) hx hb dX3_valuedSize_30 (by decide) ?_
      exact wk_X3_valuedSize_34 C hap h hP hS (lv_sub hl [] rfl)
abbrev rmX3_valuedBytes : Room := { frames := 2, cells := 0, slots := 0, locals := 43 }
def wb_X3_valuedBytes_4 (Q : Int32 → Rg → Ar → Prop) (k4 : Rg → Ar → Int32 → Int32 → Prop) (σ : Rg) (μ : Ar) (v1 : Int32) (v2 : Int32) : Prop := (((48 : Int32) ≤ v2 → Q v1 σ μ) ∧ (¬ (48 : Int32) ≤ v2 → wp_X3_valuedSize σ μ v2 (fun r13 σ13 μ13 => ∀ y17 : Int32, y17 = (v1 + r13) → (∀ y18 : Int32, y18 = v2 + (1 : Int32) → (k4 σ13 μ13 y17 y18)))))
set_option maxHeartbeats 4000000 in
set_option maxRecDepth 100000 in
theorem wk_X3_valuedBytes_4 {p : Program} {l : Launch} {e : Env} {s : State} {m : MethodId} {args : Array Value} {below : List Frame} {meth : Method} {c : Code} {D : va_G} {cy : ClassId} {Ad : Nat → Nat} (C : Cx p s m args meth c RX3 cX3_valuedBytes 3 (some FieldType.int) D [(cy, .int)]) (hap : apt 18 Ad) {Q : Int32 → Rg → Ar → Prop} {k4 : Rg → Ar → Int32 → Int32 → Prop} (hk4 : ∀ {σ : Rg} {μ : Ar} {v1 : Int32} {v2 : Int32} {H : Heap} {locs : List Loc} {ls : Array Slot}, k4 σ μ v1 v2 → va_P D vwCl (wS Ad cy σ μ) H → va_S (AS 18 Ad) s.heap H locs → lv_has ls 3 [(0, .ref (Ad 4)), (1, .int v1), (2, .int v2)] → W p l e rmX3_valuedBytes s m args below meth c H locs 0 0 (MQ below (Qcg (PWi (wS Ad cy) D Q) (AS 18 Ad)) args s 0 0 (AS 18 Ad)) (F0 m 4 ls [])) {σ : Rg} {μ : Ar} {v1 : Int32} {v2 : Int32} {H : Heap} {locs : List Loc} {ls : Array Slot} (h : wb_X3_valuedBytes_4 Q k4 σ μ v1 v2) (hP : va_P D vwCl (wS Ad cy σ μ) H) (hS : va_S (AS 18 Ad) s.heap H locs) (hl : lv_has ls 3 [(0, .ref (Ad 4)), (1, .int v1), (2, .int v2)]) : W p l e rmX3_valuedBytes s m args below meth c H locs 0 0 (MQ below (Qcg (PWi (wS Ad cy) D Q) (AS 18 Ad)) args s 0 0 (AS 18 Ad)) (F0 m 4 ls []) := by
  have hx := C.1
  have hb := C.2.1
  refine lv_iload_n hx hb dX3_valuedBytes_4 rfl (lv_at hl 2 rfl) ?_
  refine lv_bipush (v := 48) hx hb dX3_valuedBytes_5 (by decide) ?_
  refine lv_icmp_ge (tgt := 24) hx hb dX3_valuedBytes_7 (by decide) (fun hc => ?_) (fun hc => ?_)
  · have h := h.1 hc
    refine lv_iload_n hx hb dX3_valuedBytes_24 rfl (lv_at hl 1 rfl) ?_
    exact endI C hS ⟨_, _, _, rfl, h, hP⟩ dX3_valuedBytes_25
  · have h := h.2 hc
    refine lv_iload_n hx hb dX3_valuedBytes_10 rfl (lv_at hl 1 rfl) ?_
    refine lv_aload_n hx hb dX3_valuedBytes_11 rfl (lv_at hl 0 rfl) ?_
    refine lv_iload_n hx hb dX3_valuedBytes_12 rfl (lv_at hl 2 rfl) ?_
    refine kWi (rnV C (ct_X3_valuedSize l D cy Ad hap h) yv_X3_valuedSize wq_495 ⟨rfl, rfl⟩ ⟨Nat.le_of_ble_eq_true rfl, Nat.le_of_ble_eq_true rfl⟩ ⟨Nat.zero_le _, Nat.zero_le _⟩ (vS_reading C hP) hP hl.1 rfl rfl (Nat.le_of_ble_eq_true rfl) dX3_valuedBytes_13) hS (fun _ h => h) (fun r13 σ13 μ13 H locs h hP hk hS => ?_)
    refine lv_iadd hx hb dX3_valuedBytes_16 ?_
    refine lv_topi (fun y17 e17 => ?_)
    have h := h y17 e17
    refine lv_istore_n (lv' := [(1, .int y17), (0, .ref (Ad 4)), (2, .int v2)]) hx hb dX3_valuedBytes_17 rfl hl (by decide) rfl (fun ls hl => ?_)
    obtain ⟨y18, e18⟩ : ∃ y : Int32, y = v2 + (1 : Int32) := ⟨_, rfl⟩
    have h := h y18 e18
    refine lv_iinc (v := y18) (lv' := [(2, .int y18), (1, .int y17), (0, .ref (Ad 4))]) hx hb dX3_valuedBytes_18 hl (k := 2) rfl (by rw [e18]; rfl) (by decide) rfl (fun ls hl => ?_)
    refine lv_goto (tgt := 4) hx hb dX3_valuedBytes_21 (by decide) ?_
    exact hk4 h hP hS (lv_sub hl [2, 1, 0] rfl)
def wl_X3_valuedBytes_4 (Q : Int32 → Rg → Ar → Prop) (n : Nat) : Rg → Ar → Int32 → Int32 → Prop := Nat.rec (motive := fun _ => Rg → Ar → Int32 → Int32 → Prop) (fun _ _ _ _ => False) (fun _ k => wb_X3_valuedBytes_4 Q k) n
set_option maxHeartbeats 4000000 in
theorem wkl_X3_valuedBytes_4 {p : Program} {l : Launch} {e : Env} {s : State} {m : MethodId} {args : Array Value} {below : List Frame} {meth : Method} {c : Code} {D : va_G} {cy : ClassId} {Ad : Nat → Nat} (C : Cx p s m args meth c RX3 cX3_valuedBytes 3 (some FieldType.int) D [(cy, .int)]) (hap : apt 18 Ad) {Q : Int32 → Rg → Ar → Prop}  : ∀ (n : Nat) {σ : Rg} {μ : Ar} {v1 : Int32} {v2 : Int32} {H : Heap} {locs : List Loc} {ls : Array Slot} (h : wl_X3_valuedBytes_4 Q  n σ μ v1 v2) (hP : va_P D vwCl (wS Ad cy σ μ) H) (hS : va_S (AS 18 Ad) s.heap H locs) (hl : lv_has ls 3 [(0, .ref (Ad 4)), (1, .int v1), (2, .int v2)]), W p l e rmX3_valuedBytes s m args below meth c H locs 0 0 (MQ below (Qcg (PWi (wS Ad cy) D Q) (AS 18 Ad)) args s 0 0 (AS 18 Ad)) (F0 m 4 ls []) := by
  intro n
  induction n with
  | zero => intro σ μ v1 v2 H locs ls h; exact h.elim
  | succ n ih =>
    intro σ μ v1 v2 H locs ls h hP hS hl
    exact wk_X3_valuedBytes_4 C hap (fun h hP hS hl => ih h hP hS hl) h hP hS hl
def wp_X3_valuedBytes (σ : Rg) (μ : Ar) (Q : Int32 → Rg → Ar → Prop) : Prop := ∃ n, wl_X3_valuedBytes_4 Q n σ μ (0 : Int32) (0 : Int32)
set_option maxHeartbeats 4000000 in
set_option maxRecDepth 100000 in
theorem ct_X3_valuedBytes (l : Launch) (D : va_G) (cy : ClassId) (Ad : Nat → Nat) (hap : apt 18 Ad) {σ : Rg} {μ : Ar}  {Q : Int32 → Rg → Ar → Prop} (h : wp_X3_valuedBytes σ μ  Q) : Ct l yX3_valuedBytes cX3_valuedBytes 3 (some FieldType.int) rmX3_valuedBytes D [(cy, .int)] (fun H => va_P D vwCl (wS Ad cy σ μ) H) [.ref (Ad 4)] (AS 18 Ad) (PWi (wS Ad cy) D Q) := by
  refine Ct.of (by decide) (Nat.le_of_ble_eq_true rfl) ?_
  intro p e s m below meth c ls C hP hl
  have hl : lv_has ls 3 [(0, .ref (Ad 4))] := hl
  have hS : va_S (AS 18 Ad) s.heap s.heap [] := va_S.rf
  have hx := C.1
  have hb := C.2.1
  refine lv_iconst (v := 0) hx hb dX3_valuedBytes_0 (by decide) ?_
  refine lv_istore_n (lv' := [(1, .int (0 : Int32)), (0, .ref (Ad 4))]) hx hb dX3_valuedBytes_1 rfl hl (by decide) rfl (fun ls hl => ?_)
  refine lv_iconst (v := 0) hx hb dX3_valuedBytes_2 (by decide) ?_
  refine lv_istore_n (lv' := [(2, .int (0 : Int32)), (1, .int (0 : Int32)), (0, .ref (Ad 4))]) hx hb dX3_valuedBytes_3 rfl hl (by decide) rfl (fun ls hl => ?_)
  obtain ⟨n, h⟩ := h
  exact wkl_X3_valuedBytes_4 C hap n h hP hS (lv_sub hl [2, 1, 0] rfl)
abbrev rmX3_freeBehindHandover : Room := { frames := 3, cells := 0, slots := 0, locals := 65 }
def wp_X3_freeBehindHandover (σ : Rg) (μ : Ar) (Q : Int32 → Rg → Ar → Prop) : Prop := wp_X3_valuedBytes σ μ  (fun r7 σ7 μ7 => Q (((σ 11) - (4 : Int32)) - r7) σ7 μ7)
set_option maxHeartbeats 4000000 in
set_option maxRecDepth 100000 in
theorem ct_X3_freeBehindHandover (l : Launch) (D : va_G) (cy : ClassId) (Ad : Nat → Nat) (hap : apt 18 Ad) {σ : Rg} {μ : Ar}  {Q : Int32 → Rg → Ar → Prop} (h : wp_X3_freeBehindHandover σ μ  Q) : Ct l yX3_freeBehindHandover cX3_freeBehindHandover 1 (some FieldType.int) rmX3_freeBehindHandover D [(cy, .int)] (fun H => va_P D vwCl (wS Ad cy σ μ) H) [.ref (Ad 4)] (AS 18 Ad) (PWi (wS Ad cy) D Q) := by
  refine Ct.of (by decide) (Nat.le_of_ble_eq_true rfl) ?_
  intro p e s m below meth c ls C hP hl
  have hl : lv_has ls 1 [(0, .ref (Ad 4))] := hl
  have hS : va_S (AS 18 Ad) s.heap s.heap [] := va_S.rf
  have hx := C.1
  have hb := C.2.1
  refine lv_aload_n hx hb dX3_freeBehindHandover_0 rfl (lv_at hl 0 rfl) ?_
  refine gS_reading_size C hP (C.2.2.2.2.2.2.1 _ wq_223) dX3_freeBehindHandover_1 ?_
  refine lv_iconst (v := 4) hx hb dX3_freeBehindHandover_4 (by decide) ?_
  refine lv_isub hx hb dX3_freeBehindHandover_5 ?_
  refine lv_aload_n hx hb dX3_freeBehindHandover_6 rfl (lv_at hl 0 rfl) ?_
  refine kWi (rnV C (ct_X3_valuedBytes l D cy Ad hap h) yv_X3_valuedBytes wq_566 ⟨rfl, rfl⟩ ⟨Nat.le_of_ble_eq_true rfl, Nat.le_of_ble_eq_true rfl⟩ ⟨Nat.zero_le _, Nat.zero_le _⟩ (vS_reading C hP) hP hl.1 rfl rfl (Nat.le_of_ble_eq_true rfl) dX3_freeBehindHandover_7) hS (fun _ h => h) (fun r7 σ7 μ7 H locs h hP hk hS => ?_)
  refine lv_isub hx hb dX3_freeBehindHandover_10 ?_
  exact endI C hS ⟨_, _, _, rfl, h, hP⟩ dX3_freeBehindHandover_11
abbrev rmX3_hasValue : Room := { frames := 2, cells := 0, slots := 0, locals := 43 }
def wb_X3_hasValue_13 (Q : Int32 → Rg → Ar → Prop) (σ : Rg) (μ : Ar) (t0 : Int32) : Prop := (bz t0) ∧ (Q t0 σ μ)
set_option maxHeartbeats 4000000 in
set_option maxRecDepth 100000 in
theorem wk_X3_hasValue_13 {p : Program} {l : Launch} {e : Env} {s : State} {m : MethodId} {args : Array Value} {below : List Frame} {meth : Method} {c : Code} {D : va_G} {cy : ClassId} {Ad : Nat → Nat} (C : Cx p s m args meth c RX3 cX3_hasValue 2 (some FieldType.boolean) D [(cy, .int)]) (hap : apt 18 Ad) {Q : Int32 → Rg → Ar → Prop} {σ : Rg} {μ : Ar} {t0 : Int32} {H : Heap} {locs : List Loc} {ls : Array Slot} (h : wb_X3_hasValue_13 Q σ μ t0) (hP : va_P D vwCl (wS Ad cy σ μ) H) (hS : va_S (AS 18 Ad) s.heap H locs) (hl : lv_has ls 2 []) : W p l e rmX3_hasValue s m args below meth c H locs 0 0 (MQ below (Qcg (PWi (wS Ad cy) D Q) (AS 18 Ad)) args s 0 0 (AS 18 Ad)) (F0 m 13 ls [.int t0]) := by
  have hx := C.1
  have hb := C.2.1
  obtain ⟨hc, h⟩ := h
  exact endZ C hS hc ⟨_, _, _, rfl, h, hP⟩ dX3_hasValue_13
def wp_X3_hasValue (σ : Rg) (μ : Ar) (x1 : Int32) (Q : Int32 → Rg → Ar → Prop) : Prop := wp_X3_valuedSize σ μ x1 (fun r2 σ2 μ2 => ((r2 ≤ 0 → wb_X3_hasValue_13 Q σ2 μ2 (0 : Int32)) ∧ (¬ r2 ≤ 0 → wb_X3_hasValue_13 Q σ2 μ2 (1 : Int32))))
set_option maxHeartbeats 4000000 in
set_option maxRecDepth 100000 in
theorem ct_X3_hasValue (l : Launch) (D : va_G) (cy : ClassId) (Ad : Nat → Nat) (hap : apt 18 Ad) {σ : Rg} {μ : Ar} {x1 : Int32} {Q : Int32 → Rg → Ar → Prop} (h : wp_X3_hasValue σ μ x1 Q) : Ct l yX3_hasValue cX3_hasValue 2 (some FieldType.boolean) rmX3_hasValue D [(cy, .int)] (fun H => va_P D vwCl (wS Ad cy σ μ) H) [.ref (Ad 4), .int x1] (AS 18 Ad) (PWi (wS Ad cy) D Q) := by
  refine Ct.of (by decide) (Nat.le_of_ble_eq_true rfl) ?_
  intro p e s m below meth c ls C hP hl
  have hl : lv_has ls 2 [(0, .ref (Ad 4)), (1, .int x1)] := hl
  have hS : va_S (AS 18 Ad) s.heap s.heap [] := va_S.rf
  have hx := C.1
  have hb := C.2.1
  refine lv_aload_n hx hb dX3_hasValue_0 rfl (lv_at hl 0 rfl) ?_
  refine lv_iload_n hx hb dX3_hasValue_1 rfl (lv_at hl 1 rfl) ?_
  refine kWi (rnV C (ct_X3_valuedSize l D cy Ad hap h) yv_X3_valuedSize wq_495 ⟨rfl, rfl⟩ ⟨Nat.le_of_ble_eq_true rfl, Nat.le_of_ble_eq_true rfl⟩ ⟨Nat.zero_le _, Nat.zero_le _⟩ (vS_reading C hP) hP hl.1 rfl rfl (Nat.le_of_ble_eq_true rfl) dX3_hasValue_2) hS (fun _ h => h) (fun r2 σ2 μ2 H locs h hP hk hS => ?_)
  refine lv_if_le (tgt := 12) hx hb dX3_hasValue_5 (by decide) (fun hc => ?_) (fun hc => ?_)
  · have h := h.1 hc
    refine lv_iconst (v := 0) hx hb dX3_hasValue_12 (by decide) ?_
    exact wk_X3_hasValue_13 C hap h hP hS (lv_sub hl [] rfl)
  · have h := h.2 hc
    refine lv_iconst (v := 1) hx hb dX3_hasValue_8 (by decide) ?_
    refine lv_goto (tgt := 13) hx hb dX3_hasValue_9 (by decide) ?_
    exact wk_X3_hasValue_13 C hap h hP hS (lv_sub hl [] rfl)
abbrev rmX3_numberAt : Room := { frames := 1, cells := 0, slots := 0, locals := 21 }
def wb_X3_numberAt_5 (Q : Int64 → Rg → Ar → Prop) (k5 : Rg → Ar → Int32 → Int32 → Int64 → Int32 → Prop) (σ : Rg) (μ : Ar) (v1 : Int32) (v2 : Int32) (v3 : Int64) (v5 : Int32) : Prop := ((v2 ≤ v5 → Q v3 σ μ) ∧ (¬ v2 ≤ v5 → wp_X3_byteAt σ μ (v1 + v5) (fun r21 σ21 μ21 => ∀ y26 : Int64, y26 = ((v3 * (256 : Int64)) + (r21).toInt64) → (∀ y27 : Int32, y27 = v5 + (1 : Int32) → (k5 σ21 μ21 v1 v2 y26 y27)))))
set_option maxHeartbeats 4000000 in
set_option maxRecDepth 100000 in
theorem wk_X3_numberAt_5 {p : Program} {l : Launch} {e : Env} {s : State} {m : MethodId} {args : Array Value} {below : List Frame} {meth : Method} {c : Code} {D : va_G} {cy : ClassId} {Ad : Nat → Nat} (C : Cx p s m args meth c RX3 cX3_numberAt 6 (some FieldType.long) D [(cy, .int)]) (hap : apt 18 Ad) {Q : Int64 → Rg → Ar → Prop} {k5 : Rg → Ar → Int32 → Int32 → Int64 → Int32 → Prop} (hk5 : ∀ {σ : Rg} {μ : Ar} {v1 : Int32} {v2 : Int32} {v3 : Int64} {v5 : Int32} {H : Heap} {locs : List Loc} {ls : Array Slot}, k5 σ μ v1 v2 v3 v5 → va_P D vwCl (wS Ad cy σ μ) H → va_S (AS 18 Ad) s.heap H locs → lv_has ls 6 [(0, .ref (Ad 4)), (1, .int v1), (2, .int v2), (3, .long v3), (5, .int v5)] → W p l e rmX3_numberAt s m args below meth c H locs 0 0 (MQ below (Qcg (PWl (wS Ad cy) D Q) (AS 18 Ad)) args s 0 0 (AS 18 Ad)) (F0 m 5 ls [])) {σ : Rg} {μ : Ar} {v1 : Int32} {v2 : Int32} {v3 : Int64} {v5 : Int32} {H : Heap} {locs : List Loc} {ls : Array Slot} (h : wb_X3_numberAt_5 Q k5 σ μ v1 v2 v3 v5) (hP : va_P D vwCl (wS Ad cy σ μ) H) (hS : va_S (AS 18 Ad) s.heap H locs) (hl : lv_has ls 6 [(0, .ref (Ad 4)), (1, .int v1), (2, .int v2), (3, .long v3), (5, .int v5)]) : W p l e rmX3_numberAt s m args below meth c H locs 0 0 (MQ below (Qcg (PWl (wS Ad cy) D Q) (AS 18 Ad)) args s 0 0 (AS 18 Ad)) (F0 m 5 ls []) := by
  have hx := C.1
  have hb := C.2.1
  refine lv_iload hx hb dX3_numberAt_5 (lv_at hl 4 rfl) ?_
  refine lv_iload_n hx hb dX3_numberAt_7 rfl (lv_at hl 2 rfl) ?_
  refine lv_icmp_ge (tgt := 33) hx hb dX3_numberAt_8 (by decide) (fun hc => ?_) (fun hc => ?_)
  · have h := h.1 hc
    refine lv_lload_n hx hb dX3_numberAt_33 rfl (lv_at hl 3 rfl) ?_
    exact endL C hS ⟨_, _, _, rfl, h, hP⟩ dX3_numberAt_34
  · have h := h.2 hc
    refine lv_lload_n hx hb dX3_numberAt_11 rfl (lv_at hl 3 rfl) ?_
    refine lv_ldc2 hx hb C.2.2.2.1 (C.2.2.2.2.2.2.1 _ wq_589) dX3_numberAt_12 ?_
    refine lv_lmul hx hb dX3_numberAt_15 ?_
    refine lv_aload_n hx hb dX3_numberAt_16 rfl (lv_at hl 0 rfl) ?_
    refine lv_iload_n hx hb dX3_numberAt_17 rfl (lv_at hl 1 rfl) ?_
    refine lv_iload hx hb dX3_numberAt_18 (lv_at hl 4 rfl) ?_
    refine lv_iadd hx hb dX3_numberAt_20 ?_
    refine kWi (rnV C (ct_X3_byteAt l D cy Ad hap h) yv_X3_byteAt wq_455 ⟨rfl, rfl⟩ ⟨Nat.le_of_ble_eq_true rfl, Nat.le_of_ble_eq_true rfl⟩ ⟨Nat.zero_le _, Nat.zero_le _⟩ (vS_reading C hP) hP hl.1 rfl rfl (Nat.le_of_ble_eq_true rfl) dX3_numberAt_21) hS (fun _ h => h) (fun r21 σ21 μ21 H locs h hP hk hS => ?_)
    refine lv_i2l hx hb dX3_numberAt_24 rfl ?_
    refine lv_ladd hx hb dX3_numberAt_25 ?_
    refine lv_topl (fun y26 e26 => ?_)
    have h := h y26 e26
    refine lv_lstore_n (lv' := [(3, .long y26), (0, .ref (Ad 4)), (1, .int v1), (2, .int v2), (5, .int v5)]) hx hb dX3_numberAt_26 rfl hl (by decide) rfl (fun ls hl => ?_)
    obtain ⟨y27, e27⟩ : ∃ y : Int32, y = v5 + (1 : Int32) := ⟨_, rfl⟩
    have h := h y27 e27
    refine lv_iinc (v := y27) (lv' := [(5, .int y27), (3, .long y26), (0, .ref (Ad 4)), (1, .int v1), (2, .int v2)]) hx hb dX3_numberAt_27 hl (k := 4) rfl (by rw [e27]; rfl) (by decide) rfl (fun ls hl => ?_)
    refine lv_goto (tgt := 5) hx hb dX3_numberAt_30 (by decide) ?_
    exact hk5 h hP hS (lv_sub hl [2, 3, 4, 1, 0] rfl)
def wl_X3_numberAt_5 (Q : Int64 → Rg → Ar → Prop) (n : Nat) : Rg → Ar → Int32 → Int32 → Int64 → Int32 → Prop := Nat.rec (motive := fun _ => Rg → Ar → Int32 → Int32 → Int64 → Int32 → Prop) (fun _ _ _ _ _ _ => False) (fun _ k => wb_X3_numberAt_5 Q k) n
set_option maxHeartbeats 4000000 in
theorem wkl_X3_numberAt_5 {p : Program} {l : Launch} {e : Env} {s : State} {m : MethodId} {args : Array Value} {below : List Frame} {meth : Method} {c : Code} {D : va_G} {cy : ClassId} {Ad : Nat → Nat} (C : Cx p s m args meth c RX3 cX3_numberAt 6 (some FieldType.long) D [(cy, .int)]) (hap : apt 18 Ad) {Q : Int64 → Rg → Ar → Prop}  : ∀ (n : Nat) {σ : Rg} {μ : Ar} {v1 : Int32} {v2 : Int32} {v3 : Int64} {v5 : Int32} {H : Heap} {locs : List Loc} {ls : Array Slot} (h : wl_X3_numberAt_5 Q  n σ μ v1 v2 v3 v5) (hP : va_P D vwCl (wS Ad cy σ μ) H) (hS : va_S (AS 18 Ad) s.heap H locs) (hl : lv_has ls 6 [(0, .ref (Ad 4)), (1, .int v1), (2, .int v2), (3, .long v3), (5, .int v5)]), W p l e rmX3_numberAt s m args below meth c H locs 0 0 (MQ below (Qcg (PWl (wS Ad cy) D Q) (AS 18 Ad)) args s 0 0 (AS 18 Ad)) (F0 m 5 ls []) := by
  intro n
  induction n with
  | zero => intro σ μ v1 v2 v3 v5 H locs ls h; exact h.elim
  | succ n ih =>
    intro σ μ v1 v2 v3 v5 H locs ls h hP hS hl
    exact wk_X3_numberAt_5 C hap (fun h hP hS hl => ih h hP hS hl) h hP hS hl
def wp_X3_numberAt (σ : Rg) (μ : Ar) (x1 : Int32) (x2 : Int32) (Q : Int64 → Rg → Ar → Prop) : Prop := ∃ n, wl_X3_numberAt_5 Q n σ μ x1 x2 (0 : Int64) (0 : Int32)
set_option maxHeartbeats 4000000 in
set_option maxRecDepth 100000 in
theorem ct_X3_numberAt (l : Launch) (D : va_G) (cy : ClassId) (Ad : Nat → Nat) (hap : apt 18 Ad) {σ : Rg} {μ : Ar} {x1 : Int32} {x2 : Int32} {Q : Int64 → Rg → Ar → Prop} (h : wp_X3_numberAt σ μ x1 x2 Q) : Ct l yX3_numberAt cX3_numberAt 6 (some FieldType.long) rmX3_numberAt D [(cy, .int)] (fun H => va_P D vwCl (wS Ad cy σ μ) H) [.ref (Ad 4), .int x1, .int x2] (AS 18 Ad) (PWl (wS Ad cy) D Q) := by
  refine Ct.of (by decide) (Nat.le_of_ble_eq_true rfl) ?_
  intro p e s m below meth c ls C hP hl
  have hl : lv_has ls 6 [(0, .ref (Ad 4)), (1, .int x1), (2, .int x2)] := hl
  have hS : va_S (AS 18 Ad) s.heap s.heap [] := va_S.rf
  have hx := C.1
  have hb := C.2.1
  refine lv_lconst (v := 0) hx hb dX3_numberAt_0 (by decide) ?_
  refine lv_lstore_n (lv' := [(3, .long (0 : Int64)), (0, .ref (Ad 4)), (1, .int x1), (2, .int x2)]) hx hb dX3_numberAt_1 rfl hl (by decide) rfl (fun ls hl => ?_)
  refine lv_iconst (v := 0) hx hb dX3_numberAt_2 (by decide) ?_
  refine lv_istore (lv' := [(5, .int (0 : Int32)), (3, .long (0 : Int64)), (0, .ref (Ad 4)), (1, .int x1), (2, .int x2)]) hx hb dX3_numberAt_3 hl (by decide) rfl (fun ls hl => ?_)
  obtain ⟨n, h⟩ := h
  exact wkl_X3_numberAt_5 C hap n h hP hS (lv_sub hl [2, 3, 4, 1, 0] rfl)
abbrev rmX3_clearedBits : Room := { frames := 1, cells := 0, slots := 0, locals := 21 }
def wb_X3_clearedBits_4 (Q : Int32 → Rg → Ar → Prop) (k4 : Rg → Ar → Int32 → Int32 → Int32 → Prop) (σ : Rg) (μ : Ar) (v1 : Int32) (v2 : Int32) (v3 : Int32) : Prop := (((8 : Int32) ≤ v3 → Q v2 σ μ) ∧ (¬ (8 : Int32) ≤ v3 → wp_X3_byteAt σ μ (v1 + v3) (fun r17 σ17 μ17 => wp_J6_bitCount_0f7a4 r17 (fun r20 => ∀ y25 : Int32, y25 = (v2 + ((8 : Int32) - r20)) → (∀ y26 : Int32, y26 = v3 + (1 : Int32) → (k4 σ17 μ17 v1 y25 y26))))))
set_option maxHeartbeats 4000000 in
set_option maxRecDepth 100000 in
theorem wk_X3_clearedBits_4 {p : Program} {l : Launch} {e : Env} {s : State} {m : MethodId} {args : Array Value} {below : List Frame} {meth : Method} {c : Code} {D : va_G} {cy : ClassId} {Ad : Nat → Nat} (C : Cx p s m args meth c RX3 cX3_clearedBits 4 (some FieldType.int) D [(cy, .int)]) (hap : apt 18 Ad) {Q : Int32 → Rg → Ar → Prop} {k4 : Rg → Ar → Int32 → Int32 → Int32 → Prop} (hk4 : ∀ {σ : Rg} {μ : Ar} {v1 : Int32} {v2 : Int32} {v3 : Int32} {H : Heap} {locs : List Loc} {ls : Array Slot}, k4 σ μ v1 v2 v3 → va_P D vwCl (wS Ad cy σ μ) H → va_S (AS 18 Ad) s.heap H locs → lv_has ls 4 [(0, .ref (Ad 4)), (1, .int v1), (2, .int v2), (3, .int v3)] → W p l e rmX3_clearedBits s m args below meth c H locs 0 0 (MQ below (Qcg (PWi (wS Ad cy) D Q) (AS 18 Ad)) args s 0 0 (AS 18 Ad)) (F0 m 4 ls [])) {σ : Rg} {μ : Ar} {v1 : Int32} {v2 : Int32} {v3 : Int32} {H : Heap} {locs : List Loc} {ls : Array Slot} (h : wb_X3_clearedBits_4 Q k4 σ μ v1 v2 v3) (hP : va_P D vwCl (wS Ad cy σ μ) H) (hS : va_S (AS 18 Ad) s.heap H locs) (hl : lv_has ls 4 [(0, .ref (Ad 4)), (1, .int v1), (2, .int v2), (3, .int v3)]) : W p l e rmX3_clearedBits s m args below meth c H locs 0 0 (MQ below (Qcg (PWi (wS Ad cy) D Q) (AS 18 Ad)) args s 0 0 (AS 18 Ad)) (F0 m 4 ls []) := by
  have hx := C.1
  have hb := C.2.1
  refine lv_iload_n hx hb dX3_clearedBits_4 rfl (lv_at hl 3 rfl) ?_
  refine lv_bipush (v := 8) hx hb dX3_clearedBits_5 (by decide) ?_
  refine lv_icmp_ge (tgt := 32) hx hb dX3_clearedBits_7 (by decide) (fun hc => ?_) (fun hc => ?_)
  · have h := h.1 hc
    refine lv_iload_n hx hb dX3_clearedBits_32 rfl (lv_at hl 2 rfl) ?_
    exact endI C hS ⟨_, _, _, rfl, h, hP⟩ dX3_clearedBits_33
  · have h := h.2 hc
    refine lv_iload_n hx hb dX3_clearedBits_10 rfl (lv_at hl 2 rfl) ?_
    refine lv_bipush (v := 8) hx hb dX3_clearedBits_11 (by decide) ?_
    refine lv_aload_n hx hb dX3_clearedBits_13 rfl (lv_at hl 0 rfl) ?_
    refine lv_iload_n hx hb dX3_clearedBits_14 rfl (lv_at hl 1 rfl) ?_
    refine lv_iload_n hx hb dX3_clearedBits_15 rfl (lv_at hl 3 rfl) ?_
    refine lv_iadd hx hb dX3_clearedBits_16 ?_
    refine kWi (rnV C (ct_X3_byteAt l D cy Ad hap h) yv_X3_byteAt wq_455 ⟨rfl, rfl⟩ ⟨Nat.le_of_ble_eq_true rfl, Nat.le_of_ble_eq_true rfl⟩ ⟨Nat.zero_le _, Nat.zero_le _⟩ (vS_reading C hP) hP hl.1 rfl rfl (Nat.le_of_ble_eq_true rfl) dX3_clearedBits_17) hS (fun _ h => h) (fun r17 σ17 μ17 H locs h hP hk hS => ?_)
    refine kNi (rnS (C.none) (ct_J6_bitCount_0f7a4 l D h) ys_J6_bitCount_0f7a4 wq_594 ⟨rfl, rfl⟩ ⟨Nat.le_of_ble_eq_true rfl, Nat.le_of_ble_eq_true rfl⟩ ⟨Nat.zero_le _, Nat.zero_le _⟩ trivial hl.1 rfl rfl (Nat.le_of_ble_eq_true rfl) dX3_clearedBits_20) hS (fun _ h => h.elim) (fun r20 H locs h hk hS => ?_)
    have hP := keepN hP hk
    refine lv_isub hx hb dX3_clearedBits_23 ?_
    refine lv_iadd hx hb dX3_clearedBits_24 ?_
    refine lv_topi (fun y25 e25 => ?_)
    have h := h y25 e25
    refine lv_istore_n (lv' := [(2, .int y25), (0, .ref (Ad 4)), (1, .int v1), (3, .int v3)]) hx hb dX3_clearedBits_25 rfl hl (by decide) rfl (fun ls hl => ?_)
    obtain ⟨y26, e26⟩ : ∃ y : Int32, y = v3 + (1 : Int32) := ⟨_, rfl⟩
    have h := h y26 e26
    refine lv_iinc (v := y26) (lv' := [(3, .int y26), (2, .int y25), (0, .ref (Ad 4)), (1, .int v1)]) hx hb dX3_clearedBits_26 hl (k := 3) rfl (by rw [e26]; rfl) (by decide) rfl (fun ls hl => ?_)
    refine lv_goto (tgt := 4) hx hb dX3_clearedBits_29 (by decide) ?_
    exact hk4 h hP hS (lv_sub hl [2, 3, 1, 0] rfl)
def wl_X3_clearedBits_4 (Q : Int32 → Rg → Ar → Prop) (n : Nat) : Rg → Ar → Int32 → Int32 → Int32 → Prop := Nat.rec (motive := fun _ => Rg → Ar → Int32 → Int32 → Int32 → Prop) (fun _ _ _ _ _ => False) (fun _ k => wb_X3_clearedBits_4 Q k) n
set_option maxHeartbeats 4000000 in
theorem wkl_X3_clearedBits_4 {p : Program} {l : Launch} {e : Env} {s : State} {m : MethodId} {args : Array Value} {below : List Frame} {meth : Method} {c : Code} {D : va_G} {cy : ClassId} {Ad : Nat → Nat} (C : Cx p s m args meth c RX3 cX3_clearedBits 4 (some FieldType.int) D [(cy, .int)]) (hap : apt 18 Ad) {Q : Int32 → Rg → Ar → Prop}  : ∀ (n : Nat) {σ : Rg} {μ : Ar} {v1 : Int32} {v2 : Int32} {v3 : Int32} {H : Heap} {locs : List Loc} {ls : Array Slot} (h : wl_X3_clearedBits_4 Q  n σ μ v1 v2 v3) (hP : va_P D vwCl (wS Ad cy σ μ) H) (hS : va_S (AS 18 Ad) s.heap H locs) (hl : lv_has ls 4 [(0, .ref (Ad 4)), (1, .int v1), (2, .int v2), (3, .int v3)]), W p l e rmX3_clearedBits s m args below meth c H locs 0 0 (MQ below (Qcg (PWi (wS Ad cy) D Q) (AS 18 Ad)) args s 0 0 (AS 18 Ad)) (F0 m 4 ls []) := by
  intro n
  induction n with
  | zero => intro σ μ v1 v2 v3 H locs ls h; exact h.elim
  | succ n ih =>
    intro σ μ v1 v2 v3 H locs ls h hP hS hl
    exact wk_X3_clearedBits_4 C hap (fun h hP hS hl => ih h hP hS hl) h hP hS hl
def wp_X3_clearedBits (σ : Rg) (μ : Ar) (x1 : Int32) (Q : Int32 → Rg → Ar → Prop) : Prop := ∃ n, wl_X3_clearedBits_4 Q n σ μ x1 (0 : Int32) (0 : Int32)
set_option maxHeartbeats 4000000 in
set_option maxRecDepth 100000 in
theorem ct_X3_clearedBits (l : Launch) (D : va_G) (cy : ClassId) (Ad : Nat → Nat) (hap : apt 18 Ad) {σ : Rg} {μ : Ar} {x1 : Int32} {Q : Int32 → Rg → Ar → Prop} (h : wp_X3_clearedBits σ μ x1 Q) : Ct l yX3_clearedBits cX3_clearedBits 4 (some FieldType.int) rmX3_clearedBits D [(cy, .int)] (fun H => va_P D vwCl (wS Ad cy σ μ) H) [.ref (Ad 4), .int x1] (AS 18 Ad) (PWi (wS Ad cy) D Q) := by
  refine Ct.of (by decide) (Nat.le_of_ble_eq_true rfl) ?_
  intro p e s m below meth c ls C hP hl
  have hl : lv_has ls 4 [(0, .ref (Ad 4)), (1, .int x1)] := hl
  have hS : va_S (AS 18 Ad) s.heap s.heap [] := va_S.rf
  have hx := C.1
  have hb := C.2.1
  refine lv_iconst (v := 0) hx hb dX3_clearedBits_0 (by decide) ?_
  refine lv_istore_n (lv' := [(2, .int (0 : Int32)), (0, .ref (Ad 4)), (1, .int x1)]) hx hb dX3_clearedBits_1 rfl hl (by decide) rfl (fun ls hl => ?_)
  refine lv_iconst (v := 0) hx hb dX3_clearedBits_2 (by decide) ?_
  refine lv_istore_n (lv' := [(3, .int (0 : Int32)), (2, .int (0 : Int32)), (0, .ref (Ad 4)), (1, .int x1)]) hx hb dX3_clearedBits_3 rfl hl (by decide) rfl (fun ls hl => ?_)
  obtain ⟨n, h⟩ := h
  exact wkl_X3_clearedBits_4 C hap n h hP hS (lv_sub hl [2, 3, 1, 0] rfl)
abbrev rmX3_valueOf : Room := { frames := 2, cells := 0, slots := 0, locals := 46 }
def wb_X3_valueOf_18 (Q : Int64 → Rg → Ar → Prop) (σ : Rg) (μ : Ar) : Prop := Q (-4 : Int64) σ μ
set_option maxHeartbeats 4000000 in
set_option maxRecDepth 100000 in
theorem wk_X3_valueOf_18 {p : Program} {l : Launch} {e : Env} {s : State} {m : MethodId} {args : Array Value} {below : List Frame} {meth : Method} {c : Code} {D : va_G} {cy : ClassId} {Ad : Nat → Nat} (C : Cx p s m args meth c RX3 cX3_valueOf 2 (some FieldType.long) D [(cy, .int)]) (hap : apt 18 Ad) {Q : Int64 → Rg → Ar → Prop} {σ : Rg} {μ : Ar}  {H : Heap} {locs : List Loc} {ls : Array Slot} (h : wb_X3_valueOf_18 Q σ μ) (hP : va_P D vwCl (wS Ad cy σ μ) H) (hS : va_S (AS 18 Ad) s.heap H locs) (hl : lv_has ls 2 []) : W p l e rmX3_valueOf s m args below meth c H locs 0 0 (MQ below (Qcg (PWl (wS Ad cy) D Q) (AS 18 Ad)) args s 0 0 (AS 18 Ad)) (F0 m 18 ls []) := by
  have hx := C.1
  have hb := C.2.1
  refine lv_ldc2 hx hb C.2.2.2.1 (C.2.2.2.2.2.2.1 _ wq_584) dX3_valueOf_18 ?_
  exact endL C hS ⟨_, _, _, rfl, h, hP⟩ dX3_valueOf_21
def wp_X3_valueOf (σ : Rg) (μ : Ar) (x1 : Int32) (Q : Int64 → Rg → Ar → Prop) : Prop := wp_X3_has σ μ x1 (fun r2 σ2 μ2 => ((r2 = 0 → wb_X3_valueOf_18 Q σ2 μ2) ∧ (¬ r2 = 0 → (vp_in x1 41) ∧ (((¬ (μ2 6 (x1).toNatClampNeg) = (3 : Int32) → (vp_in x1 41) ∧ (((¬ (μ2 4 (x1).toNatClampNeg) = (1 : Int32) → (vp_in x1 41) ∧ ((vp_in x1 41) ∧ (wp_X3_numberAt σ2 μ2 ((μ2 3 (x1).toNatClampNeg) + (2 : Int32)) ((μ2 6 (x1).toNatClampNeg) - (3 : Int32)) (fun r78 σ78 μ78 => Q r78 σ78 μ78)))) ∧ ((μ2 4 (x1).toNatClampNeg) = (1 : Int32) → (vp_in x1 41) ∧ (wp_X3_numberAt σ2 μ2 ((μ2 3 (x1).toNatClampNeg) + (2 : Int32)) (3 : Int32) (fun r42 σ42 μ42 => (vp_in x1 41) ∧ (wp_X3_clearedBits σ42 μ42 ((μ42 3 (x1).toNatClampNeg) + (6 : Int32)) (fun r55 σ55 μ55 => Q (r42 + (r55).toInt64) σ55 μ55)))))))) ∧ ((μ2 6 (x1).toNatClampNeg) = (3 : Int32) → wb_X3_valueOf_18 Q σ2 μ2))))))
set_option maxHeartbeats 4000000 in
set_option maxRecDepth 100000 in
theorem ct_X3_valueOf (l : Launch) (D : va_G) (cy : ClassId) (Ad : Nat → Nat) (hap : apt 18 Ad) {σ : Rg} {μ : Ar} {x1 : Int32} {Q : Int64 → Rg → Ar → Prop} (h : wp_X3_valueOf σ μ x1 Q) : Ct l yX3_valueOf cX3_valueOf 2 (some FieldType.long) rmX3_valueOf D [(cy, .int)] (fun H => va_P D vwCl (wS Ad cy σ μ) H) [.ref (Ad 4), .int x1] (AS 18 Ad) (PWl (wS Ad cy) D Q) := by
  refine Ct.of (by decide) (Nat.le_of_ble_eq_true rfl) ?_
  intro p e s m below meth c ls C hP hl
  have hl : lv_has ls 2 [(0, .ref (Ad 4)), (1, .int x1)] := hl
  have hS : va_S (AS 18 Ad) s.heap s.heap [] := va_S.rf
  have hx := C.1
  have hb := C.2.1
  refine lv_aload_n hx hb dX3_valueOf_0 rfl (lv_at hl 0 rfl) ?_
  refine lv_iload_n hx hb dX3_valueOf_1 rfl (lv_at hl 1 rfl) ?_
  refine kWi (rnV C (ct_X3_has l D cy Ad hap h) yv_X3_has wq_475 ⟨rfl, rfl⟩ ⟨Nat.le_of_ble_eq_true rfl, Nat.le_of_ble_eq_true rfl⟩ ⟨Nat.zero_le _, Nat.zero_le _⟩ (vS_reading C hP) hP hl.1 rfl rfl (Nat.le_of_ble_eq_true rfl) dX3_valueOf_2) hS (fun _ h => h) (fun r2 σ2 μ2 H locs h hP hk hS => ?_)
  refine lv_if_eq (tgt := 18) hx hb dX3_valueOf_5 (by decide) (fun hc => ?_) (fun hc => ?_)
  · have h := h.1 hc
    exact wk_X3_valueOf_18 C hap h hP hS (lv_sub hl [] rfl)
  · have h := h.2 hc
    refine lv_aload_n hx hb dX3_valueOf_8 rfl (lv_at hl 0 rfl) ?_
    refine gS_reading_sizes C hP (C.2.2.2.2.2.2.1 _ wq_220) dX3_valueOf_9 ?_
    refine lv_iload_n hx hb dX3_valueOf_12 rfl (lv_at hl 1 rfl) ?_
    obtain ⟨hc, h⟩ := h
    refine lS_6 C hP hc dX3_valueOf_13 ?_
    refine lv_iconst (v := 3) hx hb dX3_valueOf_14 (by decide) ?_
    refine lv_icmp_ne (tgt := 22) hx hb dX3_valueOf_15 (by decide) (fun hc => ?_) (fun hc => ?_)
    · have h := h.1 hc
      refine lv_aload_n hx hb dX3_valueOf_22 rfl (lv_at hl 0 rfl) ?_
      refine gS_reading_kinds C hP (C.2.2.2.2.2.2.1 _ wq_218) dX3_valueOf_23 ?_
      refine lv_iload_n hx hb dX3_valueOf_26 rfl (lv_at hl 1 rfl) ?_
      obtain ⟨hc, h⟩ := h
      refine lS_4 C hP hc dX3_valueOf_27 ?_
      refine lv_iconst (v := 1) hx hb dX3_valueOf_28 (by decide) ?_
      refine lv_icmp_ne (tgt := 61) hx hb dX3_valueOf_29 (by decide) (fun hc => ?_) (fun hc => ?_)
      · have h := h.1 hc
        refine lv_aload_n hx hb dX3_valueOf_61 rfl (lv_at hl 0 rfl) ?_
        refine lv_aload_n hx hb dX3_valueOf_62 rfl (lv_at hl 0 rfl) ?_
        refine gS_reading_places C hP (C.2.2.2.2.2.2.1 _ wq_217) dX3_valueOf_63 ?_
        refine lv_iload_n hx hb dX3_valueOf_66 rfl (lv_at hl 1 rfl) ?_
        obtain ⟨hc, h⟩ := h
        refine lS_3 C hP hc dX3_valueOf_67 ?_
        refine lv_iconst (v := 2) hx hb dX3_valueOf_68 (by decide) ?_
        refine lv_iadd hx hb dX3_valueOf_69 ?_
        refine lv_aload_n hx hb dX3_valueOf_70 rfl (lv_at hl 0 rfl) ?_
        refine gS_reading_sizes C hP (C.2.2.2.2.2.2.1 _ wq_220) dX3_valueOf_71 ?_
        refine lv_iload_n hx hb dX3_valueOf_74 rfl (lv_at hl 1 rfl) ?_
        obtain ⟨hc, h⟩ := h
        refine lS_6 C hP hc dX3_valueOf_75 ?_
        refine lv_iconst (v := 3) hx hb dX3_valueOf_76 (by decide) ?_
        refine lv_isub hx hb dX3_valueOf_77 ?_
        refine kWl (rnV C (ct_X3_numberAt l D cy Ad hap h) yv_X3_numberAt wq_585 ⟨rfl, rfl⟩ ⟨Nat.le_of_ble_eq_true rfl, Nat.le_of_ble_eq_true rfl⟩ ⟨Nat.zero_le _, Nat.zero_le _⟩ (vS_reading C hP) hP hl.1 rfl rfl (Nat.le_of_ble_eq_true rfl) dX3_valueOf_78) hS (fun _ h => h) (fun r78 σ78 μ78 H locs h hP hk hS => ?_)
        exact endL C hS ⟨_, _, _, rfl, h, hP⟩ dX3_valueOf_81
      · have h := h.2 hc
        refine lv_aload_n hx hb dX3_valueOf_32 rfl (lv_at hl 0 rfl) ?_
        refine lv_aload_n hx hb dX3_valueOf_33 rfl (lv_at hl 0 rfl) ?_
        refine gS_reading_places C hP (C.2.2.2.2.2.2.1 _ wq_217) dX3_valueOf_34 ?_
        refine lv_iload_n hx hb dX3_valueOf_37 rfl (lv_at hl 1 rfl) ?_
        obtain ⟨hc, h⟩ := h
        refine lS_3 C hP hc dX3_valueOf_38 ?_
        refine lv_iconst (v := 2) hx hb dX3_valueOf_39 (by decide) ?_
        refine lv_iadd hx hb dX3_valueOf_40 ?_
        refine lv_iconst (v := 3) hx hb dX3_valueOf_41 (by decide) ?_
        refine kWl (rnV C (ct_X3_numberAt l D cy Ad hap h) yv_X3_numberAt wq_585 ⟨rfl, rfl⟩ ⟨Nat.le_of_ble_eq_true rfl, Nat.le_of_ble_eq_true rfl⟩ ⟨Nat.zero_le _, Nat.zero_le _⟩ (vS_reading C hP) hP hl.1 rfl rfl (Nat.le_of_ble_eq_true rfl) dX3_valueOf_42) hS (fun _ h => h) (fun r42 σ42 μ42 H locs h hP hk hS => ?_)
        refine lv_aload_n hx hb dX3_valueOf_45 rfl (lv_at hl 0 rfl) ?_
        refine lv_aload_n hx hb dX3_valueOf_46 rfl (lv_at hl 0 rfl) ?_
        refine gS_reading_places C hP (C.2.2.2.2.2.2.1 _ wq_217) dX3_valueOf_47 ?_
        refine lv_iload_n hx hb dX3_valueOf_50 rfl (lv_at hl 1 rfl) ?_
        obtain ⟨hc, h⟩ := h
        refine lS_3 C hP hc dX3_valueOf_51 ?_
        refine lv_bipush (v := 6) hx hb dX3_valueOf_52 (by decide) ?_
        refine lv_iadd hx hb dX3_valueOf_54 ?_
        refine kWi (rnV C (ct_X3_clearedBits l D cy Ad hap h) yv_X3_clearedBits wq_590 ⟨rfl, rfl⟩ ⟨Nat.le_of_ble_eq_true rfl, Nat.le_of_ble_eq_true rfl⟩ ⟨Nat.zero_le _, Nat.zero_le _⟩ (vS_reading C hP) hP hl.1 rfl rfl (Nat.le_of_ble_eq_true rfl) dX3_valueOf_55) hS (fun _ h => h) (fun r55 σ55 μ55 H locs h hP hk hS => ?_)
        refine lv_i2l hx hb dX3_valueOf_58 rfl ?_
        refine lv_ladd hx hb dX3_valueOf_59 ?_
        exact endL C hS ⟨_, _, _, rfl, h, hP⟩ dX3_valueOf_60
    · have h := h.2 hc
      exact wk_X3_valueOf_18 C hap h hP hS (lv_sub hl [] rfl)
abbrev rmX3_newestValue : Room := { frames := 3, cells := 0, slots := 0, locals := 67 }
def wp_X3_newestValue (σ : Rg) (μ : Ar) (x1 : Int32) (Q : Int64 → Rg → Ar → Prop) : Prop := wp_X3_newestOf σ μ x1 (fun r3 σ3 μ3 => wp_X3_valueOf σ3 μ3 r3 (fun r6 σ6 μ6 => Q r6 σ6 μ6))
set_option maxHeartbeats 4000000 in
set_option maxRecDepth 100000 in
theorem ct_X3_newestValue (l : Launch) (D : va_G) (cy : ClassId) (Ad : Nat → Nat) (hap : apt 18 Ad) {σ : Rg} {μ : Ar} {x1 : Int32} {Q : Int64 → Rg → Ar → Prop} (h : wp_X3_newestValue σ μ x1 Q) : Ct l yX3_newestValue cX3_newestValue 2 (some FieldType.long) rmX3_newestValue D [(cy, .int)] (fun H => va_P D vwCl (wS Ad cy σ μ) H) [.ref (Ad 4), .int x1] (AS 18 Ad) (PWl (wS Ad cy) D Q) := by
  refine Ct.of (by decide) (Nat.le_of_ble_eq_true rfl) ?_
  intro p e s m below meth c ls C hP hl
  have hl : lv_has ls 2 [(0, .ref (Ad 4)), (1, .int x1)] := hl
  have hS : va_S (AS 18 Ad) s.heap s.heap [] := va_S.rf
  have hx := C.1
  have hb := C.2.1
  refine lv_aload_n hx hb dX3_newestValue_0 rfl (lv_at hl 0 rfl) ?_
  refine lv_aload_n hx hb dX3_newestValue_1 rfl (lv_at hl 0 rfl) ?_
  refine lv_iload_n hx hb dX3_newestValue_2 rfl (lv_at hl 1 rfl) ?_
  refine kWi (rnV C (ct_X3_newestOf l D cy Ad hap h) yv_X3_newestOf wq_499 ⟨rfl, rfl⟩ ⟨Nat.le_of_ble_eq_true rfl, Nat.le_of_ble_eq_true rfl⟩ ⟨Nat.zero_le _, Nat.zero_le _⟩ (vS_reading C hP) hP hl.1 rfl rfl (Nat.le_of_ble_eq_true rfl) dX3_newestValue_3) hS (fun _ h => h) (fun r3 σ3 μ3 H locs h hP hk hS => ?_)
  refine kWl (rnV C (ct_X3_valueOf l D cy Ad hap h) yv_X3_valueOf wq_650 ⟨rfl, rfl⟩ ⟨Nat.le_of_ble_eq_true rfl, Nat.le_of_ble_eq_true rfl⟩ ⟨Nat.zero_le _, Nat.zero_le _⟩ (vS_reading C hP) hP hl.1 rfl rfl (Nat.le_of_ble_eq_true rfl) dX3_newestValue_6) hS (fun _ h => h) (fun r6 σ6 μ6 H locs h hP hk hS => ?_)
  exact endL C hS ⟨_, _, _, rfl, h, hP⟩ dX3_newestValue_9
abbrev rmX3_newestLength : Room := { frames := 1, cells := 0, slots := 0, locals := 21 }
def wb_X3_newestLength_38 (Q : Int32 → Rg → Ar → Prop) (σ : Rg) (μ : Ar) (t0 : Int32) : Prop := Q t0 σ μ
set_option maxHeartbeats 4000000 in
set_option maxRecDepth 100000 in
theorem wk_X3_newestLength_38 {p : Program} {l : Launch} {e : Env} {s : State} {m : MethodId} {args : Array Value} {below : List Frame} {meth : Method} {c : Code} {D : va_G} {cy : ClassId} {Ad : Nat → Nat} (C : Cx p s m args meth c RX3 cX3_newestLength 3 (some FieldType.int) D [(cy, .int)]) (hap : apt 18 Ad) {Q : Int32 → Rg → Ar → Prop} {σ : Rg} {μ : Ar} {t0 : Int32} {H : Heap} {locs : List Loc} {ls : Array Slot} (h : wb_X3_newestLength_38 Q σ μ t0) (hP : va_P D vwCl (wS Ad cy σ μ) H) (hS : va_S (AS 18 Ad) s.heap H locs) (hl : lv_has ls 3 []) : W p l e rmX3_newestLength s m args below meth c H locs 0 0 (MQ below (Qcg (PWi (wS Ad cy) D Q) (AS 18 Ad)) args s 0 0 (AS 18 Ad)) (F0 m 38 ls [.int t0]) := by
  have hx := C.1
  have hb := C.2.1
  exact endI C hS ⟨_, _, _, rfl, h, hP⟩ dX3_newestLength_38
def wp_X3_newestLength (σ : Rg) (μ : Ar) (x1 : Int32) (Q : Int32 → Rg → Ar → Prop) : Prop := wp_X3_newestOf σ μ x1 (fun r2 σ2 μ2 => wp_X3_has σ2 μ2 r2 (fun r8 σ8 μ8 => ((¬ r8 = 0 → (vp_in r2 41) ∧ (((¬ (μ8 4 (r2).toNatClampNeg) = (1 : Int32) → (vp_in r2 41) ∧ (wb_X3_newestLength_38 Q σ8 μ8 ((μ8 6 (r2).toNatClampNeg) - (3 : Int32)))) ∧ ((μ8 4 (r2).toNatClampNeg) = (1 : Int32) → wb_X3_newestLength_38 Q σ8 μ8 (3 : Int32))))) ∧ (r8 = 0 → Q (0 : Int32) σ8 μ8))))
set_option maxHeartbeats 4000000 in
set_option maxRecDepth 100000 in
theorem ct_X3_newestLength (l : Launch) (D : va_G) (cy : ClassId) (Ad : Nat → Nat) (hap : apt 18 Ad) {σ : Rg} {μ : Ar} {x1 : Int32} {Q : Int32 → Rg → Ar → Prop} (h : wp_X3_newestLength σ μ x1 Q) : Ct l yX3_newestLength cX3_newestLength 3 (some FieldType.int) rmX3_newestLength D [(cy, .int)] (fun H => va_P D vwCl (wS Ad cy σ μ) H) [.ref (Ad 4), .int x1] (AS 18 Ad) (PWi (wS Ad cy) D Q) := by
  refine Ct.of (by decide) (Nat.le_of_ble_eq_true rfl) ?_
  intro p e s m below meth c ls C hP hl
  have hl : lv_has ls 3 [(0, .ref (Ad 4)), (1, .int x1)] := hl
  have hS : va_S (AS 18 Ad) s.heap s.heap [] := va_S.rf
  have hx := C.1
  have hb := C.2.1
  refine lv_aload_n hx hb dX3_newestLength_0 rfl (lv_at hl 0 rfl) ?_
  refine lv_iload_n hx hb dX3_newestLength_1 rfl (lv_at hl 1 rfl) ?_
  refine kWi (rnV C (ct_X3_newestOf l D cy Ad hap h) yv_X3_newestOf wq_499 ⟨rfl, rfl⟩ ⟨Nat.le_of_ble_eq_true rfl, Nat.le_of_ble_eq_true rfl⟩ ⟨Nat.zero_le _, Nat.zero_le _⟩ (vS_reading C hP) hP hl.1 rfl rfl (Nat.le_of_ble_eq_true rfl) dX3_newestLength_2) hS (fun _ h => h) (fun r2 σ2 μ2 H locs h hP hk hS => ?_)
  refine lv_istore_n (lv' := [(2, .int r2), (0, .ref (Ad 4)), (1, .int x1)]) hx hb dX3_newestLength_5 rfl hl (by decide) rfl (fun ls hl => ?_)
  refine lv_aload_n hx hb dX3_newestLength_6 rfl (lv_at hl 1 rfl) ?_
  refine lv_iload_n hx hb dX3_newestLength_7 rfl (lv_at hl 0 rfl) ?_
  refine kWi (rnV C (ct_X3_has l D cy Ad hap h) yv_X3_has wq_475 ⟨rfl, rfl⟩ ⟨Nat.le_of_ble_eq_true rfl, Nat.le_of_ble_eq_true rfl⟩ ⟨Nat.zero_le _, Nat.zero_le _⟩ (vS_reading C hP) hP hl.1 rfl rfl (Nat.le_of_ble_eq_true rfl) dX3_newestLength_8) hS (fun _ h => h) (fun r8 σ8 μ8 H locs h hP hk hS => ?_)
  refine lv_if_ne (tgt := 16) hx hb dX3_newestLength_11 (by decide) (fun hc => ?_) (fun hc => ?_)
  · have h := h.1 hc
    refine lv_aload_n hx hb dX3_newestLength_16 rfl (lv_at hl 1 rfl) ?_
    refine gS_reading_kinds C hP (C.2.2.2.2.2.2.1 _ wq_218) dX3_newestLength_17 ?_
    refine lv_iload_n hx hb dX3_newestLength_20 rfl (lv_at hl 0 rfl) ?_
    obtain ⟨hc, h⟩ := h
    refine lS_4 C hP hc dX3_newestLength_21 ?_
    refine lv_iconst (v := 1) hx hb dX3_newestLength_22 (by decide) ?_
    refine lv_icmp_ne (tgt := 30) hx hb dX3_newestLength_23 (by decide) (fun hc => ?_) (fun hc => ?_)
    · have h := h.1 hc
      refine lv_aload_n hx hb dX3_newestLength_30 rfl (lv_at hl 1 rfl) ?_
      refine gS_reading_sizes C hP (C.2.2.2.2.2.2.1 _ wq_220) dX3_newestLength_31 ?_
      refine lv_iload_n hx hb dX3_newestLength_34 rfl (lv_at hl 0 rfl) ?_
      obtain ⟨hc, h⟩ := h
      refine lS_6 C hP hc dX3_newestLength_35 ?_
      refine lv_iconst (v := 3) hx hb dX3_newestLength_36 (by decide) ?_
      refine lv_isub hx hb dX3_newestLength_37 ?_
      exact wk_X3_newestLength_38 C hap h hP hS (lv_sub hl [] rfl)
    · have h := h.2 hc
      refine lv_iconst (v := 3) hx hb dX3_newestLength_26 (by decide) ?_
      refine lv_goto (tgt := 38) hx hb dX3_newestLength_27 (by decide) ?_
      exact wk_X3_newestLength_38 C hap h hP hS (lv_sub hl [] rfl)
  · have h := h.2 hc
    refine lv_iconst (v := 0) hx hb dX3_newestLength_14 (by decide) ?_
    exact endI C hS ⟨_, _, _, rfl, h, hP⟩ dX3_newestLength_15
abbrev rmX3_unspentPlace : Room := { frames := 1, cells := 0, slots := 0, locals := 21 }
def wb_X3_unspentPlace_24 (Q : Int32 → Rg → Ar → Prop) (σ : Rg) (μ : Ar) : Prop := Q (-1 : Int32) σ μ
set_option maxHeartbeats 4000000 in
set_option maxRecDepth 100000 in
theorem wk_X3_unspentPlace_24 {p : Program} {l : Launch} {e : Env} {s : State} {m : MethodId} {args : Array Value} {below : List Frame} {meth : Method} {c : Code} {D : va_G} {cy : ClassId} {Ad : Nat → Nat} (C : Cx p s m args meth c RX3 cX3_unspentPlace 4 (some FieldType.int) D [(cy, .int)]) (hap : apt 18 Ad) {Q : Int32 → Rg → Ar → Prop} {σ : Rg} {μ : Ar}  {H : Heap} {locs : List Loc} {ls : Array Slot} (h : wb_X3_unspentPlace_24 Q σ μ) (hP : va_P D vwCl (wS Ad cy σ μ) H) (hS : va_S (AS 18 Ad) s.heap H locs) (hl : lv_has ls 4 []) : W p l e rmX3_unspentPlace s m args below meth c H locs 0 0 (MQ below (Qcg (PWi (wS Ad cy) D Q) (AS 18 Ad)) args s 0 0 (AS 18 Ad)) (F0 m 24 ls []) := by
  have hx := C.1
  have hb := C.2.1
  refine lv_iconst (v := -1) hx hb dX3_unspentPlace_24 (by decide) ?_
  exact endI C hS ⟨_, _, _, rfl, h, hP⟩ dX3_unspentPlace_25
def wb_X3_unspentPlace_29 (Q : Int32 → Rg → Ar → Prop) (k29 : Rg → Ar → Int32 → Int32 → Prop) (σ : Rg) (μ : Ar) (v2 : Int32) (v3 : Int32) : Prop := (((14 : Int32) ≤ v3 → Q (-1 : Int32) σ μ) ∧ (¬ (14 : Int32) ≤ v3 → (vp_in v2 41) ∧ (wp_X3_byteAt σ μ ((μ 3 (v2).toNatClampNeg) + v3) (fun r44 σ44 μ44 => ((r44 = 0 → ∀ y59 : Int32, y59 = v3 + (1 : Int32) → (k29 σ44 μ44 v2 y59)) ∧ (¬ r44 = 0 → (vp_in v2 41) ∧ (Q ((μ44 3 (v2).toNatClampNeg) + v3) σ44 μ44)))))))
set_option maxHeartbeats 4000000 in
set_option maxRecDepth 100000 in
theorem wk_X3_unspentPlace_29 {p : Program} {l : Launch} {e : Env} {s : State} {m : MethodId} {args : Array Value} {below : List Frame} {meth : Method} {c : Code} {D : va_G} {cy : ClassId} {Ad : Nat → Nat} (C : Cx p s m args meth c RX3 cX3_unspentPlace 4 (some FieldType.int) D [(cy, .int)]) (hap : apt 18 Ad) {Q : Int32 → Rg → Ar → Prop} {k29 : Rg → Ar → Int32 → Int32 → Prop} (hk29 : ∀ {σ : Rg} {μ : Ar} {v2 : Int32} {v3 : Int32} {H : Heap} {locs : List Loc} {ls : Array Slot}, k29 σ μ v2 v3 → va_P D vwCl (wS Ad cy σ μ) H → va_S (AS 18 Ad) s.heap H locs → lv_has ls 4 [(0, .ref (Ad 4)), (2, .int v2), (3, .int v3)] → W p l e rmX3_unspentPlace s m args below meth c H locs 0 0 (MQ below (Qcg (PWi (wS Ad cy) D Q) (AS 18 Ad)) args s 0 0 (AS 18 Ad)) (F0 m 29 ls [])) {σ : Rg} {μ : Ar} {v2 : Int32} {v3 : Int32} {H : Heap} {locs : List Loc} {ls : Array Slot} (h : wb_X3_unspentPlace_29 Q k29 σ μ v2 v3) (hP : va_P D vwCl (wS Ad cy σ μ) H) (hS : va_S (AS 18 Ad) s.heap H locs) (hl : lv_has ls 4 [(0, .ref (Ad 4)), (2, .int v2), (3, .int v3)]) : W p l e rmX3_unspentPlace s m args below meth c H locs 0 0 (MQ below (Qcg (PWi (wS Ad cy) D Q) (AS 18 Ad)) args s 0 0 (AS 18 Ad)) (F0 m 29 ls []) := by
  have hx := C.1
  have hb := C.2.1
  refine lv_iload_n hx hb dX3_unspentPlace_29 rfl (lv_at hl 2 rfl) ?_
  refine lv_bipush (v := 14) hx hb dX3_unspentPlace_30 (by decide) ?_
  refine lv_icmp_ge (tgt := 65) hx hb dX3_unspentPlace_32 (by decide) (fun hc => ?_) (fun hc => ?_)
  · have h := h.1 hc
    refine lv_iconst (v := -1) hx hb dX3_unspentPlace_65 (by decide) ?_
    exact endI C hS ⟨_, _, _, rfl, h, hP⟩ dX3_unspentPlace_66
  · have h := h.2 hc
    refine lv_aload_n hx hb dX3_unspentPlace_35 rfl (lv_at hl 0 rfl) ?_
    refine lv_aload_n hx hb dX3_unspentPlace_36 rfl (lv_at hl 0 rfl) ?_
    refine gS_reading_places C hP (C.2.2.2.2.2.2.1 _ wq_217) dX3_unspentPlace_37 ?_
    refine lv_iload_n hx hb dX3_unspentPlace_40 rfl (lv_at hl 1 rfl) ?_
    obtain ⟨hc, h⟩ := h
    refine lS_3 C hP hc dX3_unspentPlace_41 ?_
    refine lv_iload_n hx hb dX3_unspentPlace_42 rfl (lv_at hl 2 rfl) ?_
    refine lv_iadd hx hb dX3_unspentPlace_43 ?_
    refine kWi (rnV C (ct_X3_byteAt l D cy Ad hap h) yv_X3_byteAt wq_455 ⟨rfl, rfl⟩ ⟨Nat.le_of_ble_eq_true rfl, Nat.le_of_ble_eq_true rfl⟩ ⟨Nat.zero_le _, Nat.zero_le _⟩ (vS_reading C hP) hP hl.1 rfl rfl (Nat.le_of_ble_eq_true rfl) dX3_unspentPlace_44) hS (fun _ h => h) (fun r44 σ44 μ44 H locs h hP hk hS => ?_)
    refine lv_if_eq (tgt := 59) hx hb dX3_unspentPlace_47 (by decide) (fun hc => ?_) (fun hc => ?_)
    · have h := h.1 hc
      obtain ⟨y59, e59⟩ : ∃ y : Int32, y = v3 + (1 : Int32) := ⟨_, rfl⟩
      have h := h y59 e59
      refine lv_iinc (v := y59) (lv' := [(3, .int y59), (0, .ref (Ad 4)), (2, .int v2)]) hx hb dX3_unspentPlace_59 hl (k := 2) rfl (by rw [e59]; rfl) (by decide) rfl (fun ls hl => ?_)
      refine lv_goto (tgt := 29) hx hb dX3_unspentPlace_62 (by decide) ?_
      exact hk29 h hP hS (lv_sub hl [1, 2, 0] rfl)
    · have h := h.2 hc
      refine lv_aload_n hx hb dX3_unspentPlace_50 rfl (lv_at hl 0 rfl) ?_
      refine gS_reading_places C hP (C.2.2.2.2.2.2.1 _ wq_217) dX3_unspentPlace_51 ?_
      refine lv_iload_n hx hb dX3_unspentPlace_54 rfl (lv_at hl 1 rfl) ?_
      obtain ⟨hc, h⟩ := h
      refine lS_3 C hP hc dX3_unspentPlace_55 ?_
      refine lv_iload_n hx hb dX3_unspentPlace_56 rfl (lv_at hl 2 rfl) ?_
      refine lv_iadd hx hb dX3_unspentPlace_57 ?_
      exact endI C hS ⟨_, _, _, rfl, h, hP⟩ dX3_unspentPlace_58
def wl_X3_unspentPlace_29 (Q : Int32 → Rg → Ar → Prop) (n : Nat) : Rg → Ar → Int32 → Int32 → Prop := Nat.rec (motive := fun _ => Rg → Ar → Int32 → Int32 → Prop) (fun _ _ _ _ => False) (fun _ k => wb_X3_unspentPlace_29 Q k) n
set_option maxHeartbeats 4000000 in
theorem wkl_X3_unspentPlace_29 {p : Program} {l : Launch} {e : Env} {s : State} {m : MethodId} {args : Array Value} {below : List Frame} {meth : Method} {c : Code} {D : va_G} {cy : ClassId} {Ad : Nat → Nat} (C : Cx p s m args meth c RX3 cX3_unspentPlace 4 (some FieldType.int) D [(cy, .int)]) (hap : apt 18 Ad) {Q : Int32 → Rg → Ar → Prop}  : ∀ (n : Nat) {σ : Rg} {μ : Ar} {v2 : Int32} {v3 : Int32} {H : Heap} {locs : List Loc} {ls : Array Slot} (h : wl_X3_unspentPlace_29 Q  n σ μ v2 v3) (hP : va_P D vwCl (wS Ad cy σ μ) H) (hS : va_S (AS 18 Ad) s.heap H locs) (hl : lv_has ls 4 [(0, .ref (Ad 4)), (2, .int v2), (3, .int v3)]), W p l e rmX3_unspentPlace s m args below meth c H locs 0 0 (MQ below (Qcg (PWi (wS Ad cy) D Q) (AS 18 Ad)) args s 0 0 (AS 18 Ad)) (F0 m 29 ls []) := by
  intro n
  induction n with
  | zero => intro σ μ v2 v3 H locs ls h; exact h.elim
  | succ n ih =>
    intro σ μ v2 v3 H locs ls h hP hS hl
    exact wk_X3_unspentPlace_29 C hap (fun h hP hS hl => ih h hP hS hl) h hP hS hl
def wp_X3_unspentPlace (σ : Rg) (μ : Ar) (x1 : Int32) (Q : Int32 → Rg → Ar → Prop) : Prop := wp_X3_newestOf σ μ x1 (fun r2 σ2 μ2 => wp_X3_has σ2 μ2 r2 (fun r8 σ8 μ8 => ((r8 = 0 → wb_X3_unspentPlace_24 Q σ8 μ8) ∧ (¬ r8 = 0 → (vp_in r2 41) ∧ ((((μ8 4 (r2).toNatClampNeg) = (1 : Int32) → ∃ n, wl_X3_unspentPlace_29 Q n σ8 μ8 r2 (6 : Int32)) ∧ (¬ (μ8 4 (r2).toNatClampNeg) = (1 : Int32) → wb_X3_unspentPlace_24 Q σ8 μ8)))))))
set_option maxHeartbeats 4000000 in
set_option maxRecDepth 100000 in
theorem ct_X3_unspentPlace (l : Launch) (D : va_G) (cy : ClassId) (Ad : Nat → Nat) (hap : apt 18 Ad) {σ : Rg} {μ : Ar} {x1 : Int32} {Q : Int32 → Rg → Ar → Prop} (h : wp_X3_unspentPlace σ μ x1 Q) : Ct l yX3_unspentPlace cX3_unspentPlace 4 (some FieldType.int) rmX3_unspentPlace D [(cy, .int)] (fun H => va_P D vwCl (wS Ad cy σ μ) H) [.ref (Ad 4), .int x1] (AS 18 Ad) (PWi (wS Ad cy) D Q) := by
  refine Ct.of (by decide) (Nat.le_of_ble_eq_true rfl) ?_
  intro p e s m below meth c ls C hP hl
  have hl : lv_has ls 4 [(0, .ref (Ad 4)), (1, .int x1)] := hl
  have hS : va_S (AS 18 Ad) s.heap s.heap [] := va_S.rf
  have hx := C.1
  have hb := C.2.1
  refine lv_aload_n hx hb dX3_unspentPlace_0 rfl (lv_at hl 0 rfl) ?_
  refine lv_iload_n hx hb dX3_unspentPlace_1 rfl (lv_at hl 1 rfl) ?_
  refine kWi (rnV C (ct_X3_newestOf l D cy Ad hap h) yv_X3_newestOf wq_499 ⟨rfl, rfl⟩ ⟨Nat.le_of_ble_eq_true rfl, Nat.le_of_ble_eq_true rfl⟩ ⟨Nat.zero_le _, Nat.zero_le _⟩ (vS_reading C hP) hP hl.1 rfl rfl (Nat.le_of_ble_eq_true rfl) dX3_unspentPlace_2) hS (fun _ h => h) (fun r2 σ2 μ2 H locs h hP hk hS => ?_)
  refine lv_istore_n (lv' := [(2, .int r2), (0, .ref (Ad 4)), (1, .int x1)]) hx hb dX3_unspentPlace_5 rfl hl (by decide) rfl (fun ls hl => ?_)
  refine lv_aload_n hx hb dX3_unspentPlace_6 rfl (lv_at hl 1 rfl) ?_
  refine lv_iload_n hx hb dX3_unspentPlace_7 rfl (lv_at hl 0 rfl) ?_
  refine kWi (rnV C (ct_X3_has l D cy Ad hap h) yv_X3_has wq_475 ⟨rfl, rfl⟩ ⟨Nat.le_of_ble_eq_true rfl, Nat.le_of_ble_eq_true rfl⟩ ⟨Nat.zero_le _, Nat.zero_le _⟩ (vS_reading C hP) hP hl.1 rfl rfl (Nat.le_of_ble_eq_true rfl) dX3_unspentPlace_8) hS (fun _ h => h) (fun r8 σ8 μ8 H locs h hP hk hS => ?_)
  refine lv_if_eq (tgt := 24) hx hb dX3_unspentPlace_11 (by decide) (fun hc => ?_) (fun hc => ?_)
  · have h := h.1 hc
    exact wk_X3_unspentPlace_24 C hap h hP hS (lv_sub hl [] rfl)
  · have h := h.2 hc
    refine lv_aload_n hx hb dX3_unspentPlace_14 rfl (lv_at hl 1 rfl) ?_
    refine gS_reading_kinds C hP (C.2.2.2.2.2.2.1 _ wq_218) dX3_unspentPlace_15 ?_
    refine lv_iload_n hx hb dX3_unspentPlace_18 rfl (lv_at hl 0 rfl) ?_
    obtain ⟨hc, h⟩ := h
    refine lS_4 C hP hc dX3_unspentPlace_19 ?_
    refine lv_iconst (v := 1) hx hb dX3_unspentPlace_20 (by decide) ?_
    refine lv_icmp_eq (tgt := 26) hx hb dX3_unspentPlace_21 (by decide) (fun hc => ?_) (fun hc => ?_)
    · have h := h.1 hc
      refine lv_bipush (v := 6) hx hb dX3_unspentPlace_26 (by decide) ?_
      refine lv_istore_n (lv' := [(3, .int (6 : Int32)), (2, .int r2), (0, .ref (Ad 4)), (1, .int x1)]) hx hb dX3_unspentPlace_28 rfl hl (by decide) rfl (fun ls hl => ?_)
      obtain ⟨n, h⟩ := h
      exact wkl_X3_unspentPlace_29 C hap n h hP hS (lv_sub hl [2, 1, 0] rfl)
    · have h := h.2 hc
      exact wk_X3_unspentPlace_24 C hap h hP hS (lv_sub hl [] rfl)
abbrev rmX3_tells : Room := { frames := 1, cells := 0, slots := 0, locals := 21 }
def wb_X3_tells_42 (Q : Int32 → Rg → Ar → Prop) (σ : Rg) (μ : Ar) (t0 : Int32) : Prop := (bz t0) ∧ (Q t0 σ μ)
set_option maxHeartbeats 4000000 in
set_option maxRecDepth 100000 in
theorem wk_X3_tells_42 {p : Program} {l : Launch} {e : Env} {s : State} {m : MethodId} {args : Array Value} {below : List Frame} {meth : Method} {c : Code} {D : va_G} {cy : ClassId} {Ad : Nat → Nat} (C : Cx p s m args meth c RX3 cX3_tells 3 (some FieldType.boolean) D [(cy, .int)]) (hap : apt 18 Ad) {Q : Int32 → Rg → Ar → Prop} {σ : Rg} {μ : Ar} {t0 : Int32} {H : Heap} {locs : List Loc} {ls : Array Slot} (h : wb_X3_tells_42 Q σ μ t0) (hP : va_P D vwCl (wS Ad cy σ μ) H) (hS : va_S (AS 18 Ad) s.heap H locs) (hl : lv_has ls 3 []) : W p l e rmX3_tells s m args below meth c H locs 0 0 (MQ below (Qcg (PWi (wS Ad cy) D Q) (AS 18 Ad)) args s 0 0 (AS 18 Ad)) (F0 m 42 ls [.int t0]) := by
  have hx := C.1
  have hb := C.2.1
  obtain ⟨hc, h⟩ := h
  exact endZ C hS hc ⟨_, _, _, rfl, h, hP⟩ dX3_tells_42
def wb_X3_tells_41 (Q : Int32 → Rg → Ar → Prop) (σ : Rg) (μ : Ar) : Prop := wb_X3_tells_42 Q σ μ (0 : Int32)
set_option maxHeartbeats 4000000 in
set_option maxRecDepth 100000 in
theorem wk_X3_tells_41 {p : Program} {l : Launch} {e : Env} {s : State} {m : MethodId} {args : Array Value} {below : List Frame} {meth : Method} {c : Code} {D : va_G} {cy : ClassId} {Ad : Nat → Nat} (C : Cx p s m args meth c RX3 cX3_tells 3 (some FieldType.boolean) D [(cy, .int)]) (hap : apt 18 Ad) {Q : Int32 → Rg → Ar → Prop} {σ : Rg} {μ : Ar}  {H : Heap} {locs : List Loc} {ls : Array Slot} (h : wb_X3_tells_41 Q σ μ) (hP : va_P D vwCl (wS Ad cy σ μ) H) (hS : va_S (AS 18 Ad) s.heap H locs) (hl : lv_has ls 3 []) : W p l e rmX3_tells s m args below meth c H locs 0 0 (MQ below (Qcg (PWi (wS Ad cy) D Q) (AS 18 Ad)) args s 0 0 (AS 18 Ad)) (F0 m 41 ls []) := by
  have hx := C.1
  have hb := C.2.1
  refine lv_iconst (v := 0) hx hb dX3_tells_41 (by decide) ?_
  exact wk_X3_tells_42 C hap h hP hS (lv_sub hl [] rfl)
def wb_X3_tells_37 (Q : Int32 → Rg → Ar → Prop) (σ : Rg) (μ : Ar) : Prop := wb_X3_tells_42 Q σ μ (1 : Int32)
set_option maxHeartbeats 4000000 in
set_option maxRecDepth 100000 in
theorem wk_X3_tells_37 {p : Program} {l : Launch} {e : Env} {s : State} {m : MethodId} {args : Array Value} {below : List Frame} {meth : Method} {c : Code} {D : va_G} {cy : ClassId} {Ad : Nat → Nat} (C : Cx p s m args meth c RX3 cX3_tells 3 (some FieldType.boolean) D [(cy, .int)]) (hap : apt 18 Ad) {Q : Int32 → Rg → Ar → Prop} {σ : Rg} {μ : Ar}  {H : Heap} {locs : List Loc} {ls : Array Slot} (h : wb_X3_tells_37 Q σ μ) (hP : va_P D vwCl (wS Ad cy σ μ) H) (hS : va_S (AS 18 Ad) s.heap H locs) (hl : lv_has ls 3 []) : W p l e rmX3_tells s m args below meth c H locs 0 0 (MQ below (Qcg (PWi (wS Ad cy) D Q) (AS 18 Ad)) args s 0 0 (AS 18 Ad)) (F0 m 37 ls []) := by
  have hx := C.1
  have hb := C.2.1
  refine lv_iconst (v := 1) hx hb dX3_tells_37 (by decide) ?_
  refine lv_goto (tgt := 42) hx hb dX3_tells_38 (by decide) ?_
  exact wk_X3_tells_42 C hap h hP hS (lv_sub hl [] rfl)
def wp_X3_tells (σ : Rg) (μ : Ar) (x1 : Int32) (x2 : Int32) (Q : Int32 → Rg → Ar → Prop) : Prop := wp_X3_has σ μ x1 (fun r2 σ2 μ2 => ((r2 = 0 → wb_X3_tells_41 Q σ2 μ2) ∧ (¬ r2 = 0 → (vp_in x1 41) ∧ (((¬ (μ2 5 (x1).toNatClampNeg) = x2 → wb_X3_tells_41 Q σ2 μ2) ∧ ((μ2 5 (x1).toNatClampNeg) = x2 → (vp_in x1 41) ∧ ((((μ2 7 (x1).toNatClampNeg) = 0 → wb_X3_tells_37 Q σ2 μ2) ∧ (¬ (μ2 7 (x1).toNatClampNeg) = 0 → (vp_in x1 41) ∧ (((¬ (μ2 7 (x1).toNatClampNeg) = (1 : Int32) → wb_X3_tells_41 Q σ2 μ2) ∧ ((μ2 7 (x1).toNatClampNeg) = (1 : Int32) → wb_X3_tells_37 Q σ2 μ2))))))))))))
set_option maxHeartbeats 4000000 in
set_option maxRecDepth 100000 in
theorem ct_X3_tells (l : Launch) (D : va_G) (cy : ClassId) (Ad : Nat → Nat) (hap : apt 18 Ad) {σ : Rg} {μ : Ar} {x1 : Int32} {x2 : Int32} {Q : Int32 → Rg → Ar → Prop} (h : wp_X3_tells σ μ x1 x2 Q) : Ct l yX3_tells cX3_tells 3 (some FieldType.boolean) rmX3_tells D [(cy, .int)] (fun H => va_P D vwCl (wS Ad cy σ μ) H) [.ref (Ad 4), .int x1, .int x2] (AS 18 Ad) (PWi (wS Ad cy) D Q) := by
  refine Ct.of (by decide) (Nat.le_of_ble_eq_true rfl) ?_
  intro p e s m below meth c ls C hP hl
  have hl : lv_has ls 3 [(0, .ref (Ad 4)), (1, .int x1), (2, .int x2)] := hl
  have hS : va_S (AS 18 Ad) s.heap s.heap [] := va_S.rf
  have hx := C.1
  have hb := C.2.1
  refine lv_aload_n hx hb dX3_tells_0 rfl (lv_at hl 0 rfl) ?_
  refine lv_iload_n hx hb dX3_tells_1 rfl (lv_at hl 1 rfl) ?_
  refine kWi (rnV C (ct_X3_has l D cy Ad hap h) yv_X3_has wq_475 ⟨rfl, rfl⟩ ⟨Nat.le_of_ble_eq_true rfl, Nat.le_of_ble_eq_true rfl⟩ ⟨Nat.zero_le _, Nat.zero_le _⟩ (vS_reading C hP) hP hl.1 rfl rfl (Nat.le_of_ble_eq_true rfl) dX3_tells_2) hS (fun _ h => h) (fun r2 σ2 μ2 H locs h hP hk hS => ?_)
  refine lv_if_eq (tgt := 41) hx hb dX3_tells_5 (by decide) (fun hc => ?_) (fun hc => ?_)
  · have h := h.1 hc
    exact wk_X3_tells_41 C hap h hP hS (lv_sub hl [] rfl)
  · have h := h.2 hc
    refine lv_aload_n hx hb dX3_tells_8 rfl (lv_at hl 0 rfl) ?_
    refine gS_reading_labels C hP (C.2.2.2.2.2.2.1 _ wq_219) dX3_tells_9 ?_
    refine lv_iload_n hx hb dX3_tells_12 rfl (lv_at hl 1 rfl) ?_
    obtain ⟨hc, h⟩ := h
    refine lS_5 C hP hc dX3_tells_13 ?_
    refine lv_iload_n hx hb dX3_tells_14 rfl (lv_at hl 2 rfl) ?_
    refine lv_icmp_ne (tgt := 41) hx hb dX3_tells_15 (by decide) (fun hc => ?_) (fun hc => ?_)
    · have h := h.1 hc
      exact wk_X3_tells_41 C hap h hP hS (lv_sub hl [] rfl)
    · have h := h.2 hc
      refine lv_aload_n hx hb dX3_tells_18 rfl (lv_at hl 0 rfl) ?_
      refine gS_reading_marks C hP (C.2.2.2.2.2.2.1 _ wq_221) dX3_tells_19 ?_
      refine lv_iload_n hx hb dX3_tells_22 rfl (lv_at hl 1 rfl) ?_
      obtain ⟨hc, h⟩ := h
      refine lS_7 C hP hc dX3_tells_23 ?_
      refine lv_if_eq (tgt := 37) hx hb dX3_tells_24 (by decide) (fun hc => ?_) (fun hc => ?_)
      · have h := h.1 hc
        exact wk_X3_tells_37 C hap h hP hS (lv_sub hl [] rfl)
      · have h := h.2 hc
        refine lv_aload_n hx hb dX3_tells_27 rfl (lv_at hl 0 rfl) ?_
        refine gS_reading_marks C hP (C.2.2.2.2.2.2.1 _ wq_221) dX3_tells_28 ?_
        refine lv_iload_n hx hb dX3_tells_31 rfl (lv_at hl 1 rfl) ?_
        obtain ⟨hc, h⟩ := h
        refine lS_7 C hP hc dX3_tells_32 ?_
        refine lv_iconst (v := 1) hx hb dX3_tells_33 (by decide) ?_
        refine lv_icmp_ne (tgt := 41) hx hb dX3_tells_34 (by decide) (fun hc => ?_) (fun hc => ?_)
        · have h := h.1 hc
          exact wk_X3_tells_41 C hap h hP hS (lv_sub hl [] rfl)
        · have h := h.2 hc
          exact wk_X3_tells_37 C hap h hP hS (lv_sub hl [] rfl)
abbrev rmX3_tellingOf : Room := { frames := 2, cells := 0, slots := 0, locals := 43 }
def wb_X3_tellingOf_27 (Q : Int32 → Rg → Ar → Prop) (k4 : Rg → Ar → Int32 → Int32 → Int32 → Prop) (σ : Rg) (μ : Ar) (v1 : Int32) (v3 : Int32) (t0 : Int32) (t1 : Int32) : Prop := ∀ y28 : Int32, y28 = (t1 + t0) → (∀ y29 : Int32, y29 = v3 + (1 : Int32) → (k4 σ μ v1 y28 y29))
set_option maxHeartbeats 4000000 in
set_option maxRecDepth 100000 in
theorem wk_X3_tellingOf_27 {p : Program} {l : Launch} {e : Env} {s : State} {m : MethodId} {args : Array Value} {below : List Frame} {meth : Method} {c : Code} {D : va_G} {cy : ClassId} {Ad : Nat → Nat} (C : Cx p s m args meth c RX3 cX3_tellingOf 4 (some FieldType.int) D [(cy, .int)]) (hap : apt 18 Ad) {Q : Int32 → Rg → Ar → Prop} {k4 : Rg → Ar → Int32 → Int32 → Int32 → Prop} (hk4 : ∀ {σ : Rg} {μ : Ar} {v1 : Int32} {v2 : Int32} {v3 : Int32} {H : Heap} {locs : List Loc} {ls : Array Slot}, k4 σ μ v1 v2 v3 → va_P D vwCl (wS Ad cy σ μ) H → va_S (AS 18 Ad) s.heap H locs → lv_has ls 4 [(0, .ref (Ad 4)), (1, .int v1), (2, .int v2), (3, .int v3)] → W p l e rmX3_tellingOf s m args below meth c H locs 0 0 (MQ below (Qcg (PWi (wS Ad cy) D Q) (AS 18 Ad)) args s 0 0 (AS 18 Ad)) (F0 m 4 ls [])) {σ : Rg} {μ : Ar} {v1 : Int32} {v3 : Int32} {t0 : Int32} {t1 : Int32} {H : Heap} {locs : List Loc} {ls : Array Slot} (h : wb_X3_tellingOf_27 Q k4 σ μ v1 v3 t0 t1) (hP : va_P D vwCl (wS Ad cy σ μ) H) (hS : va_S (AS 18 Ad) s.heap H locs) (hl : lv_has ls 4 [(0, .ref (Ad 4)), (1, .int v1), (3, .int v3)]) : W p l e rmX3_tellingOf s m args below meth c H locs 0 0 (MQ below (Qcg (PWi (wS Ad cy) D Q) (AS 18 Ad)) args s 0 0 (AS 18 Ad)) (F0 m 27 ls [.int t0, .int t1]) := by
  have hx := C.1
  have hb := C.2.1
  refine lv_iadd hx hb dX3_tellingOf_27 ?_
  refine lv_topi (fun y28 e28 => ?_)
  have h := h y28 e28
  refine lv_istore_n (lv' := [(2, .int y28), (0, .ref (Ad 4)), (1, .int v1), (3, .int v3)]) hx hb dX3_tellingOf_28 rfl hl (by decide) rfl (fun ls hl => ?_)
  obtain ⟨y29, e29⟩ : ∃ y : Int32, y = v3 + (1 : Int32) := ⟨_, rfl⟩
  have h := h y29 e29
  refine lv_iinc (v := y29) (lv' := [(3, .int y29), (2, .int y28), (0, .ref (Ad 4)), (1, .int v1)]) hx hb dX3_tellingOf_29 hl (k := 3) rfl (by rw [e29]; rfl) (by decide) rfl (fun ls hl => ?_)
  refine lv_goto (tgt := 4) hx hb dX3_tellingOf_32 (by decide) ?_
  exact hk4 h hP hS (lv_sub hl [2, 3, 1, 0] rfl)
def wb_X3_tellingOf_4 (Q : Int32 → Rg → Ar → Prop) (k4 : Rg → Ar → Int32 → Int32 → Int32 → Prop) (σ : Rg) (μ : Ar) (v1 : Int32) (v2 : Int32) (v3 : Int32) : Prop := (((σ 12) ≤ v3 → Q v2 σ μ) ∧ (¬ (σ 12) ≤ v3 → wp_X3_tells σ μ v3 v1 (fun r16 σ16 μ16 => ((r16 = 0 → wb_X3_tellingOf_27 Q k4 σ16 μ16 v1 v3 (0 : Int32) v2) ∧ (¬ r16 = 0 → wb_X3_tellingOf_27 Q k4 σ16 μ16 v1 v3 (1 : Int32) v2)))))
set_option maxHeartbeats 4000000 in
set_option maxRecDepth 100000 in
theorem wk_X3_tellingOf_4 {p : Program} {l : Launch} {e : Env} {s : State} {m : MethodId} {args : Array Value} {below : List Frame} {meth : Method} {c : Code} {D : va_G} {cy : ClassId} {Ad : Nat → Nat} (C : Cx p s m args meth c RX3 cX3_tellingOf 4 (some FieldType.int) D [(cy, .int)]) (hap : apt 18 Ad) {Q : Int32 → Rg → Ar → Prop} {k4 : Rg → Ar → Int32 → Int32 → Int32 → Prop} (hk4 : ∀ {σ : Rg} {μ : Ar} {v1 : Int32} {v2 : Int32} {v3 : Int32} {H : Heap} {locs : List Loc} {ls : Array Slot}, k4 σ μ v1 v2 v3 → va_P D vwCl (wS Ad cy σ μ) H → va_S (AS 18 Ad) s.heap H locs → lv_has ls 4 [(0, .ref (Ad 4)), (1, .int v1), (2, .int v2), (3, .int v3)] → W p l e rmX3_tellingOf s m args below meth c H locs 0 0 (MQ below (Qcg (PWi (wS Ad cy) D Q) (AS 18 Ad)) args s 0 0 (AS 18 Ad)) (F0 m 4 ls [])) {σ : Rg} {μ : Ar} {v1 : Int32} {v2 : Int32} {v3 : Int32} {H : Heap} {locs : List Loc} {ls : Array Slot} (h : wb_X3_tellingOf_4 Q k4 σ μ v1 v2 v3) (hP : va_P D vwCl (wS Ad cy σ μ) H) (hS : va_S (AS 18 Ad) s.heap H locs) (hl : lv_has ls 4 [(0, .ref (Ad 4)), (1, .int v1), (2, .int v2), (3, .int v3)]) : W p l e rmX3_tellingOf s m args below meth c H locs 0 0 (MQ below (Qcg (PWi (wS Ad cy) D Q) (AS 18 Ad)) args s 0 0 (AS 18 Ad)) (F0 m 4 ls []) := by
  have hx := C.1
  have hb := C.2.1
  refine lv_iload_n hx hb dX3_tellingOf_4 rfl (lv_at hl 3 rfl) ?_
  refine lv_aload_n hx hb dX3_tellingOf_5 rfl (lv_at hl 0 rfl) ?_
  refine gS_reading_entries C hP (C.2.2.2.2.2.2.1 _ wq_224) dX3_tellingOf_6 ?_
  refine lv_icmp_ge (tgt := 35) hx hb dX3_tellingOf_9 (by decide) (fun hc => ?_) (fun hc => ?_)
  · have h := h.1 hc
    refine lv_iload_n hx hb dX3_tellingOf_35 rfl (lv_at hl 2 rfl) ?_
    exact endI C hS ⟨_, _, _, rfl, h, hP⟩ dX3_tellingOf_36
  · have h := h.2 hc
    refine lv_iload_n hx hb dX3_tellingOf_12 rfl (lv_at hl 2 rfl) ?_
    refine lv_aload_n hx hb dX3_tellingOf_13 rfl (lv_at hl 0 rfl) ?_
    refine lv_iload_n hx hb dX3_tellingOf_14 rfl (lv_at hl 3 rfl) ?_
    refine lv_iload_n hx hb dX3_tellingOf_15 rfl (lv_at hl 1 rfl) ?_
    refine kWi (rnV C (ct_X3_tells l D cy Ad hap h) yv_X3_tells wq_786 ⟨rfl, rfl⟩ ⟨Nat.le_of_ble_eq_true rfl, Nat.le_of_ble_eq_true rfl⟩ ⟨Nat.zero_le _, Nat.zero_le _⟩ (vS_reading C hP) hP hl.1 rfl rfl (Nat.le_of_ble_eq_true rfl) dX3_tellingOf_16) hS (fun _ h => h) (fun r16 σ16 μ16 H locs h hP hk hS => ?_)
    refine lv_if_eq (tgt := 26) hx hb dX3_tellingOf_19 (by decide) (fun hc => ?_) (fun hc => ?_)
    · have h := h.1 hc
      refine lv_iconst (v := 0) hx hb dX3_tellingOf_26 (by decide) ?_
      exact wk_X3_tellingOf_27 C hap hk4 h hP hS (lv_sub hl [0, 1, 3] rfl)
    · have h := h.2 hc
      refine lv_iconst (v := 1) hx hb dX3_tellingOf_22 (by decide) ?_
      refine lv_goto (tgt := 27) hx hb dX3_tellingOf_23 (by decide) ?_
      exact wk_X3_tellingOf_27 C hap hk4 h hP hS (lv_sub hl [0, 1, 3] rfl)
def wl_X3_tellingOf_4 (Q : Int32 → Rg → Ar → Prop) (n : Nat) : Rg → Ar → Int32 → Int32 → Int32 → Prop := Nat.rec (motive := fun _ => Rg → Ar → Int32 → Int32 → Int32 → Prop) (fun _ _ _ _ _ => False) (fun _ k => wb_X3_tellingOf_4 Q k) n
set_option maxHeartbeats 4000000 in
theorem wkl_X3_tellingOf_4 {p : Program} {l : Launch} {e : Env} {s : State} {m : MethodId} {args : Array Value} {below : List Frame} {meth : Method} {c : Code} {D : va_G} {cy : ClassId} {Ad : Nat → Nat} (C : Cx p s m args meth c RX3 cX3_tellingOf 4 (some FieldType.int) D [(cy, .int)]) (hap : apt 18 Ad) {Q : Int32 → Rg → Ar → Prop}  : ∀ (n : Nat) {σ : Rg} {μ : Ar} {v1 : Int32} {v2 : Int32} {v3 : Int32} {H : Heap} {locs : List Loc} {ls : Array Slot} (h : wl_X3_tellingOf_4 Q  n σ μ v1 v2 v3) (hP : va_P D vwCl (wS Ad cy σ μ) H) (hS : va_S (AS 18 Ad) s.heap H locs) (hl : lv_has ls 4 [(0, .ref (Ad 4)), (1, .int v1), (2, .int v2), (3, .int v3)]), W p l e rmX3_tellingOf s m args below meth c H locs 0 0 (MQ below (Qcg (PWi (wS Ad cy) D Q) (AS 18 Ad)) args s 0 0 (AS 18 Ad)) (F0 m 4 ls []) := by
  intro n
  induction n with
  | zero => intro σ μ v1 v2 v3 H locs ls h; exact h.elim
  | succ n ih =>
    intro σ μ v1 v2 v3 H locs ls h hP hS hl
    exact wk_X3_tellingOf_4 C hap (fun h hP hS hl => ih h hP hS hl) h hP hS hl
def wp_X3_tellingOf (σ : Rg) (μ : Ar) (x1 : Int32) (Q : Int32 → Rg → Ar → Prop) : Prop := ∃ n, wl_X3_tellingOf_4 Q n σ μ x1 (0 : Int32) (0 : Int32)
set_option maxHeartbeats 4000000 in
set_option maxRecDepth 100000 in
theorem ct_X3_tellingOf (l : Launch) (D : va_G) (cy : ClassId) (Ad : Nat → Nat) (hap : apt 18 Ad) {σ : Rg} {μ : Ar} {x1 : Int32} {Q : Int32 → Rg → Ar → Prop} (h : wp_X3_tellingOf σ μ x1 Q) : Ct l yX3_tellingOf cX3_tellingOf 4 (some FieldType.int) rmX3_tellingOf D [(cy, .int)] (fun H => va_P D vwCl (wS Ad cy σ μ) H) [.ref (Ad 4), .int x1] (AS 18 Ad) (PWi (wS Ad cy) D Q) := by
  refine Ct.of (by decide) (Nat.le_of_ble_eq_true rfl) ?_
  intro p e s m below meth c ls C hP hl
  have hl : lv_has ls 4 [(0, .ref (Ad 4)), (1, .int x1)] := hl
  have hS : va_S (AS 18 Ad) s.heap s.heap [] := va_S.rf
  have hx := C.1
  have hb := C.2.1
  refine lv_iconst (v := 0) hx hb dX3_tellingOf_0 (by decide) ?_
  refine lv_istore_n (lv' := [(2, .int (0 : Int32)), (0, .ref (Ad 4)), (1, .int x1)]) hx hb dX3_tellingOf_1 rfl hl (by decide) rfl (fun ls hl => ?_)
  refine lv_iconst (v := 0) hx hb dX3_tellingOf_2 (by decide) ?_
  refine lv_istore_n (lv' := [(3, .int (0 : Int32)), (2, .int (0 : Int32)), (0, .ref (Ad 4)), (1, .int x1)]) hx hb dX3_tellingOf_3 rfl hl (by decide) rfl (fun ls hl => ?_)
  obtain ⟨n, h⟩ := h
  exact wkl_X3_tellingOf_4 C hap n h hP hS (lv_sub hl [2, 3, 1, 0] rfl)
abbrev rmX3_earlierValue : Room := { frames := 3, cells := 0, slots := 0, locals := 67 }
def wb_X3_earlierValue_43 (Q : Int64 → Rg → Ar → Prop) (k10 : Rg → Ar → Int32 → Int32 → Int32 → Int32 → Prop) (σ : Rg) (μ : Ar) (v1 : Int32) (v2 : Int32) (v3 : Int32) (v4 : Int32) : Prop := ∀ y43 : Int32, y43 = v4 + (-1 : Int32) → (k10 σ μ v1 v2 v3 y43)
set_option maxHeartbeats 4000000 in
set_option maxRecDepth 100000 in
theorem wk_X3_earlierValue_43 {p : Program} {l : Launch} {e : Env} {s : State} {m : MethodId} {args : Array Value} {below : List Frame} {meth : Method} {c : Code} {D : va_G} {cy : ClassId} {Ad : Nat → Nat} (C : Cx p s m args meth c RX3 cX3_earlierValue 5 (some FieldType.long) D [(cy, .int)]) (hap : apt 18 Ad) {Q : Int64 → Rg → Ar → Prop} {k10 : Rg → Ar → Int32 → Int32 → Int32 → Int32 → Prop} (hk10 : ∀ {σ : Rg} {μ : Ar} {v1 : Int32} {v2 : Int32} {v3 : Int32} {v4 : Int32} {H : Heap} {locs : List Loc} {ls : Array Slot}, k10 σ μ v1 v2 v3 v4 → va_P D vwCl (wS Ad cy σ μ) H → va_S (AS 18 Ad) s.heap H locs → lv_has ls 5 [(0, .ref (Ad 4)), (1, .int v1), (2, .int v2), (3, .int v3), (4, .int v4)] → W p l e rmX3_earlierValue s m args below meth c H locs 0 0 (MQ below (Qcg (PWl (wS Ad cy) D Q) (AS 18 Ad)) args s 0 0 (AS 18 Ad)) (F0 m 10 ls [])) {σ : Rg} {μ : Ar} {v1 : Int32} {v2 : Int32} {v3 : Int32} {v4 : Int32} {H : Heap} {locs : List Loc} {ls : Array Slot} (h : wb_X3_earlierValue_43 Q k10 σ μ v1 v2 v3 v4) (hP : va_P D vwCl (wS Ad cy σ μ) H) (hS : va_S (AS 18 Ad) s.heap H locs) (hl : lv_has ls 5 [(0, .ref (Ad 4)), (1, .int v1), (2, .int v2), (3, .int v3), (4, .int v4)]) : W p l e rmX3_earlierValue s m args below meth c H locs 0 0 (MQ below (Qcg (PWl (wS Ad cy) D Q) (AS 18 Ad)) args s 0 0 (AS 18 Ad)) (F0 m 43 ls []) := by
  have hx := C.1
  have hb := C.2.1
  obtain ⟨y43, e43⟩ : ∃ y : Int32, y = v4 + (-1 : Int32) := ⟨_, rfl⟩
  have h := h y43 e43
  refine lv_iinc (v := y43) (lv' := [(4, .int y43), (0, .ref (Ad 4)), (1, .int v1), (2, .int v2), (3, .int v3)]) hx hb dX3_earlierValue_43 hl (k := 4) rfl (by rw [e43]; rfl) (by decide) rfl (fun ls hl => ?_)
  refine lv_goto (tgt := 10) hx hb dX3_earlierValue_46 (by decide) ?_
  exact hk10 h hP hS (lv_sub hl [1, 2, 3, 4, 0] rfl)
def wb_X3_earlierValue_10 (Q : Int64 → Rg → Ar → Prop) (k10 : Rg → Ar → Int32 → Int32 → Int32 → Int32 → Prop) (σ : Rg) (μ : Ar) (v1 : Int32) (v2 : Int32) (v3 : Int32) (v4 : Int32) : Prop := ((v4 < 0 → Q (-5 : Int64) σ μ) ∧ (¬ v4 < 0 → wp_X3_tells σ μ v4 v1 (fun r19 σ19 μ19 => ((¬ r19 = 0 → ((¬ v3 = v2 → ∀ y40 : Int32, y40 = v3 + (1 : Int32) → (wb_X3_earlierValue_43 Q k10 σ19 μ19 v1 v2 y40 v4)) ∧ (v3 = v2 → wp_X3_valueOf σ19 μ19 v4 (fun r36 σ36 μ36 => Q r36 σ36 μ36)))) ∧ (r19 = 0 → wb_X3_earlierValue_43 Q k10 σ19 μ19 v1 v2 v3 v4)))))
set_option maxHeartbeats 4000000 in
set_option maxRecDepth 100000 in
theorem wk_X3_earlierValue_10 {p : Program} {l : Launch} {e : Env} {s : State} {m : MethodId} {args : Array Value} {below : List Frame} {meth : Method} {c : Code} {D : va_G} {cy : ClassId} {Ad : Nat → Nat} (C : Cx p s m args meth c RX3 cX3_earlierValue 5 (some FieldType.long) D [(cy, .int)]) (hap : apt 18 Ad) {Q : Int64 → Rg → Ar → Prop} {k10 : Rg → Ar → Int32 → Int32 → Int32 → Int32 → Prop} (hk10 : ∀ {σ : Rg} {μ : Ar} {v1 : Int32} {v2 : Int32} {v3 : Int32} {v4 : Int32} {H : Heap} {locs : List Loc} {ls : Array Slot}, k10 σ μ v1 v2 v3 v4 → va_P D vwCl (wS Ad cy σ μ) H → va_S (AS 18 Ad) s.heap H locs → lv_has ls 5 [(0, .ref (Ad 4)), (1, .int v1), (2, .int v2), (3, .int v3), (4, .int v4)] → W p l e rmX3_earlierValue s m args below meth c H locs 0 0 (MQ below (Qcg (PWl (wS Ad cy) D Q) (AS 18 Ad)) args s 0 0 (AS 18 Ad)) (F0 m 10 ls [])) {σ : Rg} {μ : Ar} {v1 : Int32} {v2 : Int32} {v3 : Int32} {v4 : Int32} {H : Heap} {locs : List Loc} {ls : Array Slot} (h : wb_X3_earlierValue_10 Q k10 σ μ v1 v2 v3 v4) (hP : va_P D vwCl (wS Ad cy σ μ) H) (hS : va_S (AS 18 Ad) s.heap H locs) (hl : lv_has ls 5 [(0, .ref (Ad 4)), (1, .int v1), (2, .int v2), (3, .int v3), (4, .int v4)]) : W p l e rmX3_earlierValue s m args below meth c H locs 0 0 (MQ below (Qcg (PWl (wS Ad cy) D Q) (AS 18 Ad)) args s 0 0 (AS 18 Ad)) (F0 m 10 ls []) := by
  have hx := C.1
  have hb := C.2.1
  refine lv_iload hx hb dX3_earlierValue_10 (lv_at hl 4 rfl) ?_
  refine lv_if_lt (tgt := 49) hx hb dX3_earlierValue_12 (by decide) (fun hc => ?_) (fun hc => ?_)
  · have h := h.1 hc
    refine lv_ldc2 hx hb C.2.2.2.1 (C.2.2.2.2.2.2.1 _ wq_794) dX3_earlierValue_49 ?_
    exact endL C hS ⟨_, _, _, rfl, h, hP⟩ dX3_earlierValue_52
  · have h := h.2 hc
    refine lv_aload_n hx hb dX3_earlierValue_15 rfl (lv_at hl 0 rfl) ?_
    refine lv_iload hx hb dX3_earlierValue_16 (lv_at hl 4 rfl) ?_
    refine lv_iload_n hx hb dX3_earlierValue_18 rfl (lv_at hl 1 rfl) ?_
    refine kWi (rnV C (ct_X3_tells l D cy Ad hap h) yv_X3_tells wq_786 ⟨rfl, rfl⟩ ⟨Nat.le_of_ble_eq_true rfl, Nat.le_of_ble_eq_true rfl⟩ ⟨Nat.zero_le _, Nat.zero_le _⟩ (vS_reading C hP) hP hl.1 rfl rfl (Nat.le_of_ble_eq_true rfl) dX3_earlierValue_19) hS (fun _ h => h) (fun r19 σ19 μ19 H locs h hP hk hS => ?_)
    refine lv_if_ne (tgt := 28) hx hb dX3_earlierValue_22 (by decide) (fun hc => ?_) (fun hc => ?_)
    · have h := h.1 hc
      refine lv_iload_n hx hb dX3_earlierValue_28 rfl (lv_at hl 3 rfl) ?_
      refine lv_iload_n hx hb dX3_earlierValue_29 rfl (lv_at hl 2 rfl) ?_
      refine lv_icmp_ne (tgt := 40) hx hb dX3_earlierValue_30 (by decide) (fun hc => ?_) (fun hc => ?_)
      · have h := h.1 hc
        obtain ⟨y40, e40⟩ : ∃ y : Int32, y = v3 + (1 : Int32) := ⟨_, rfl⟩
        have h := h y40 e40
        refine lv_iinc (v := y40) (lv' := [(3, .int y40), (0, .ref (Ad 4)), (1, .int v1), (2, .int v2), (4, .int v4)]) hx hb dX3_earlierValue_40 hl (k := 3) rfl (by rw [e40]; rfl) (by decide) rfl (fun ls hl => ?_)
        exact wk_X3_earlierValue_43 C hap hk10 h hP hS (lv_sub hl [1, 2, 3, 0, 4] rfl)
      · have h := h.2 hc
        refine lv_aload_n hx hb dX3_earlierValue_33 rfl (lv_at hl 0 rfl) ?_
        refine lv_iload hx hb dX3_earlierValue_34 (lv_at hl 4 rfl) ?_
        refine kWl (rnV C (ct_X3_valueOf l D cy Ad hap h) yv_X3_valueOf wq_650 ⟨rfl, rfl⟩ ⟨Nat.le_of_ble_eq_true rfl, Nat.le_of_ble_eq_true rfl⟩ ⟨Nat.zero_le _, Nat.zero_le _⟩ (vS_reading C hP) hP hl.1 rfl rfl (Nat.le_of_ble_eq_true rfl) dX3_earlierValue_36) hS (fun _ h => h) (fun r36 σ36 μ36 H locs h hP hk hS => ?_)
        exact endL C hS ⟨_, _, _, rfl, h, hP⟩ dX3_earlierValue_39
    · have h := h.2 hc
      refine lv_goto (tgt := 43) hx hb dX3_earlierValue_25 (by decide) ?_
      exact wk_X3_earlierValue_43 C hap hk10 h hP hS (lv_sub hl [0, 1, 2, 3, 4] rfl)
def wl_X3_earlierValue_10 (Q : Int64 → Rg → Ar → Prop) (n : Nat) : Rg → Ar → Int32 → Int32 → Int32 → Int32 → Prop := Nat.rec (motive := fun _ => Rg → Ar → Int32 → Int32 → Int32 → Int32 → Prop) (fun _ _ _ _ _ _ => False) (fun _ k => wb_X3_earlierValue_10 Q k) n
set_option maxHeartbeats 4000000 in
theorem wkl_X3_earlierValue_10 {p : Program} {l : Launch} {e : Env} {s : State} {m : MethodId} {args : Array Value} {below : List Frame} {meth : Method} {c : Code} {D : va_G} {cy : ClassId} {Ad : Nat → Nat} (C : Cx p s m args meth c RX3 cX3_earlierValue 5 (some FieldType.long) D [(cy, .int)]) (hap : apt 18 Ad) {Q : Int64 → Rg → Ar → Prop}  : ∀ (n : Nat) {σ : Rg} {μ : Ar} {v1 : Int32} {v2 : Int32} {v3 : Int32} {v4 : Int32} {H : Heap} {locs : List Loc} {ls : Array Slot} (h : wl_X3_earlierValue_10 Q  n σ μ v1 v2 v3 v4) (hP : va_P D vwCl (wS Ad cy σ μ) H) (hS : va_S (AS 18 Ad) s.heap H locs) (hl : lv_has ls 5 [(0, .ref (Ad 4)), (1, .int v1), (2, .int v2), (3, .int v3), (4, .int v4)]), W p l e rmX3_earlierValue s m args below meth c H locs 0 0 (MQ below (Qcg (PWl (wS Ad cy) D Q) (AS 18 Ad)) args s 0 0 (AS 18 Ad)) (F0 m 10 ls []) := by
  intro n
  induction n with
  | zero => intro σ μ v1 v2 v3 v4 H locs ls h; exact h.elim
  | succ n ih =>
    intro σ μ v1 v2 v3 v4 H locs ls h hP hS hl
    exact wk_X3_earlierValue_10 C hap (fun h hP hS hl => ih h hP hS hl) h hP hS hl
def wp_X3_earlierValue (σ : Rg) (μ : Ar) (x1 : Int32) (x2 : Int32) (Q : Int64 → Rg → Ar → Prop) : Prop := ∀ y8 : Int32, y8 = ((σ 12) - (1 : Int32)) → (∃ n, wl_X3_earlierValue_10 Q n σ μ x1 x2 (0 : Int32) y8)
set_option maxHeartbeats 4000000 in
set_option maxRecDepth 100000 in
theorem ct_X3_earlierValue (l : Launch) (D : va_G) (cy : ClassId) (Ad : Nat → Nat) (hap : apt 18 Ad) {σ : Rg} {μ : Ar} {x1 : Int32} {x2 : Int32} {Q : Int64 → Rg → Ar → Prop} (h : wp_X3_earlierValue σ μ x1 x2 Q) : Ct l yX3_earlierValue cX3_earlierValue 5 (some FieldType.long) rmX3_earlierValue D [(cy, .int)] (fun H => va_P D vwCl (wS Ad cy σ μ) H) [.ref (Ad 4), .int x1, .int x2] (AS 18 Ad) (PWl (wS Ad cy) D Q) := by
  refine Ct.of (by decide) (Nat.le_of_ble_eq_true rfl) ?_
  intro p e s m below meth c ls C hP hl
  have hl : lv_has ls 5 [(0, .ref (Ad 4)), (1, .int x1), (2, .int x2)] := hl
  have hS : va_S (AS 18 Ad) s.heap s.heap [] := va_S.rf
  have hx := C.1
  have hb := C.2.1
  refine lv_iconst (v := 0) hx hb dX3_earlierValue_0 (by decide) ?_
  refine lv_istore_n (lv' := [(3, .int (0 : Int32)), (0, .ref (Ad 4)), (1, .int x1), (2, .int x2)]) hx hb dX3_earlierValue_1 rfl hl (by decide) rfl (fun ls hl => ?_)
  refine lv_aload_n hx hb dX3_earlierValue_2 rfl (lv_at hl 1 rfl) ?_
  refine gS_reading_entries C hP (C.2.2.2.2.2.2.1 _ wq_224) dX3_earlierValue_3 ?_
  refine lv_iconst (v := 1) hx hb dX3_earlierValue_6 (by decide) ?_
  refine lv_isub hx hb dX3_earlierValue_7 ?_
  refine lv_topi (fun y8 e8 => ?_)
  have h := h y8 e8
  refine lv_istore (lv' := [(4, .int y8), (3, .int (0 : Int32)), (0, .ref (Ad 4)), (1, .int x1), (2, .int x2)]) hx hb dX3_earlierValue_8 hl (by decide) rfl (fun ls hl => ?_)
  obtain ⟨n, h⟩ := h
  exact wkl_X3_earlierValue_10 C hap n h hP hS (lv_sub hl [2, 3, 4, 1, 0] rfl)
abbrev rmX3_allBytes : Room := { frames := 0, cells := 0, slots := 0, locals := 0 }
def wb_X3_allBytes_4 (Q : Int32 → Rg → Ar → Prop) (k4 : Rg → Ar → Int32 → Int32 → Prop) (σ : Rg) (μ : Ar) (v1 : Int32) (v2 : Int32) : Prop := (((σ 12) ≤ v2 → Q v1 σ μ) ∧ (¬ (σ 12) ≤ v2 → (vp_in v2 41) ∧ (∀ y20 : Int32, y20 = (v1 + (μ 6 (v2).toNatClampNeg)) → (∀ y21 : Int32, y21 = v2 + (1 : Int32) → (k4 σ μ y20 y21)))))
set_option maxHeartbeats 4000000 in
set_option maxRecDepth 100000 in
theorem wk_X3_allBytes_4 {p : Program} {l : Launch} {e : Env} {s : State} {m : MethodId} {args : Array Value} {below : List Frame} {meth : Method} {c : Code} {D : va_G} {cy : ClassId} {Ad : Nat → Nat} (C : Cx p s m args meth c RX3 cX3_allBytes 3 (some FieldType.int) D [(cy, .int)]) (hap : apt 18 Ad) {Q : Int32 → Rg → Ar → Prop} {k4 : Rg → Ar → Int32 → Int32 → Prop} (hk4 : ∀ {σ : Rg} {μ : Ar} {v1 : Int32} {v2 : Int32} {H : Heap} {locs : List Loc} {ls : Array Slot}, k4 σ μ v1 v2 → va_P D vwCl (wS Ad cy σ μ) H → va_S (AS 18 Ad) s.heap H locs → lv_has ls 3 [(0, .ref (Ad 4)), (1, .int v1), (2, .int v2)] → W p l e rmX3_allBytes s m args below meth c H locs 0 0 (MQ below (Qcg (PWi (wS Ad cy) D Q) (AS 18 Ad)) args s 0 0 (AS 18 Ad)) (F0 m 4 ls [])) {σ : Rg} {μ : Ar} {v1 : Int32} {v2 : Int32} {H : Heap} {locs : List Loc} {ls : Array Slot} (h : wb_X3_allBytes_4 Q k4 σ μ v1 v2) (hP : va_P D vwCl (wS Ad cy σ μ) H) (hS : va_S (AS 18 Ad) s.heap H locs) (hl : lv_has ls 3 [(0, .ref (Ad 4)), (1, .int v1), (2, .int v2)]) : W p l e rmX3_allBytes s m args below meth c H locs 0 0 (MQ below (Qcg (PWi (wS Ad cy) D Q) (AS 18 Ad)) args s 0 0 (AS 18 Ad)) (F0 m 4 ls []) := by
  have hx := C.1
  have hb := C.2.1
  refine lv_iload_n hx hb dX3_allBytes_4 rfl (lv_at hl 2 rfl) ?_
  refine lv_aload_n hx hb dX3_allBytes_5 rfl (lv_at hl 0 rfl) ?_
  refine gS_reading_entries C hP (C.2.2.2.2.2.2.1 _ wq_224) dX3_allBytes_6 ?_
  refine lv_icmp_ge (tgt := 27) hx hb dX3_allBytes_9 (by decide) (fun hc => ?_) (fun hc => ?_)
  · have h := h.1 hc
    refine lv_iload_n hx hb dX3_allBytes_27 rfl (lv_at hl 1 rfl) ?_
    exact endI C hS ⟨_, _, _, rfl, h, hP⟩ dX3_allBytes_28
  · have h := h.2 hc
    refine lv_iload_n hx hb dX3_allBytes_12 rfl (lv_at hl 1 rfl) ?_
    refine lv_aload_n hx hb dX3_allBytes_13 rfl (lv_at hl 0 rfl) ?_
    refine gS_reading_sizes C hP (C.2.2.2.2.2.2.1 _ wq_220) dX3_allBytes_14 ?_
    refine lv_iload_n hx hb dX3_allBytes_17 rfl (lv_at hl 2 rfl) ?_
    obtain ⟨hc, h⟩ := h
    refine lS_6 C hP hc dX3_allBytes_18 ?_
    refine lv_iadd hx hb dX3_allBytes_19 ?_
    refine lv_topi (fun y20 e20 => ?_)
    have h := h y20 e20
    refine lv_istore_n (lv' := [(1, .int y20), (0, .ref (Ad 4)), (2, .int v2)]) hx hb dX3_allBytes_20 rfl hl (by decide) rfl (fun ls hl => ?_)
    obtain ⟨y21, e21⟩ : ∃ y : Int32, y = v2 + (1 : Int32) := ⟨_, rfl⟩
    have h := h y21 e21
    refine lv_iinc (v := y21) (lv' := [(2, .int y21), (1, .int y20), (0, .ref (Ad 4))]) hx hb dX3_allBytes_21 hl (k := 2) rfl (by rw [e21]; rfl) (by decide) rfl (fun ls hl => ?_)
    refine lv_goto (tgt := 4) hx hb dX3_allBytes_24 (by decide) ?_
    exact hk4 h hP hS (lv_sub hl [2, 1, 0] rfl)
def wl_X3_allBytes_4 (Q : Int32 → Rg → Ar → Prop) (n : Nat) : Rg → Ar → Int32 → Int32 → Prop := Nat.rec (motive := fun _ => Rg → Ar → Int32 → Int32 → Prop) (fun _ _ _ _ => False) (fun _ k => wb_X3_allBytes_4 Q k) n
set_option maxHeartbeats 4000000 in
theorem wkl_X3_allBytes_4 {p : Program} {l : Launch} {e : Env} {s : State} {m : MethodId} {args : Array Value} {below : List Frame} {meth : Method} {c : Code} {D : va_G} {cy : ClassId} {Ad : Nat → Nat} (C : Cx p s m args meth c RX3 cX3_allBytes 3 (some FieldType.int) D [(cy, .int)]) (hap : apt 18 Ad) {Q : Int32 → Rg → Ar → Prop}  : ∀ (n : Nat) {σ : Rg} {μ : Ar} {v1 : Int32} {v2 : Int32} {H : Heap} {locs : List Loc} {ls : Array Slot} (h : wl_X3_allBytes_4 Q  n σ μ v1 v2) (hP : va_P D vwCl (wS Ad cy σ μ) H) (hS : va_S (AS 18 Ad) s.heap H locs) (hl : lv_has ls 3 [(0, .ref (Ad 4)), (1, .int v1), (2, .int v2)]), W p l e rmX3_allBytes s m args below meth c H locs 0 0 (MQ below (Qcg (PWi (wS Ad cy) D Q) (AS 18 Ad)) args s 0 0 (AS 18 Ad)) (F0 m 4 ls []) := by
  intro n
  induction n with
  | zero => intro σ μ v1 v2 H locs ls h; exact h.elim
  | succ n ih =>
    intro σ μ v1 v2 H locs ls h hP hS hl
    exact wk_X3_allBytes_4 C hap (fun h hP hS hl => ih h hP hS hl) h hP hS hl
def wp_X3_allBytes (σ : Rg) (μ : Ar) (Q : Int32 → Rg → Ar → Prop) : Prop := ∃ n, wl_X3_allBytes_4 Q n σ μ (0 : Int32) (0 : Int32)
set_option maxHeartbeats 4000000 in
set_option maxRecDepth 100000 in
theorem ct_X3_allBytes (l : Launch) (D : va_G) (cy : ClassId) (Ad : Nat → Nat) (hap : apt 18 Ad) {σ : Rg} {μ : Ar}  {Q : Int32 → Rg → Ar → Prop} (h : wp_X3_allBytes σ μ  Q) : Ct l yX3_allBytes cX3_allBytes 3 (some FieldType.int) rmX3_allBytes D [(cy, .int)] (fun H => va_P D vwCl (wS Ad cy σ μ) H) [.ref (Ad 4)] (AS 18 Ad) (PWi (wS Ad cy) D Q) := by
  refine Ct.of (by decide) (Nat.le_of_ble_eq_true rfl) ?_
  intro p e s m below meth c ls C hP hl
  have hl : lv_has ls 3 [(0, .ref (Ad 4))] := hl
  have hS : va_S (AS 18 Ad) s.heap s.heap [] := va_S.rf
  have hx := C.1
  have hb := C.2.1
  refine lv_iconst (v := 0) hx hb dX3_allBytes_0 (by decide) ?_
  refine lv_istore_n (lv' := [(1, .int (0 : Int32)), (0, .ref (Ad 4))]) hx hb dX3_allBytes_1 rfl hl (by decide) rfl (fun ls hl => ?_)
  refine lv_iconst (v := 0) hx hb dX3_allBytes_2 (by decide) ?_
  refine lv_istore_n (lv' := [(2, .int (0 : Int32)), (1, .int (0 : Int32)), (0, .ref (Ad 4))]) hx hb dX3_allBytes_3 rfl hl (by decide) rfl (fun ls hl => ?_)
  obtain ⟨n, h⟩ := h
  exact wkl_X3_allBytes_4 C hap n h hP hS (lv_sub hl [2, 1, 0] rfl)
abbrev rmX3_copyWrites : Room := { frames := 3, cells := 0, slots := 0, locals := 64 }
def wb_X3_copyWrites_37 (Q : Int32 → Rg → Ar → Prop) (k4 : Rg → Ar → Int32 → Int32 → Prop) (σ : Rg) (μ : Ar) (v1 : Int32) (v2 : Int32) : Prop := ∀ y37 : Int32, y37 = v2 + (1 : Int32) → (k4 σ μ v1 y37)
set_option maxHeartbeats 4000000 in
set_option maxRecDepth 100000 in
theorem wk_X3_copyWrites_37 {p : Program} {l : Launch} {e : Env} {s : State} {m : MethodId} {args : Array Value} {below : List Frame} {meth : Method} {c : Code} {D : va_G} {cy : ClassId} {Ad : Nat → Nat} (C : Cx p s m args meth c RX3 cX3_copyWrites 3 (some FieldType.int) D [(cy, .int)]) (hap : apt 18 Ad) {Q : Int32 → Rg → Ar → Prop} {k4 : Rg → Ar → Int32 → Int32 → Prop} (hk4 : ∀ {σ : Rg} {μ : Ar} {v1 : Int32} {v2 : Int32} {H : Heap} {locs : List Loc} {ls : Array Slot}, k4 σ μ v1 v2 → va_P D vwCl (wS Ad cy σ μ) H → va_S (AS 18 Ad) s.heap H locs → lv_has ls 3 [(0, .ref (Ad 4)), (1, .int v1), (2, .int v2)] → W p l e rmX3_copyWrites s m args below meth c H locs 0 0 (MQ below (Qcg (PWi (wS Ad cy) D Q) (AS 18 Ad)) args s 0 0 (AS 18 Ad)) (F0 m 4 ls [])) {σ : Rg} {μ : Ar} {v1 : Int32} {v2 : Int32} {H : Heap} {locs : List Loc} {ls : Array Slot} (h : wb_X3_copyWrites_37 Q k4 σ μ v1 v2) (hP : va_P D vwCl (wS Ad cy σ μ) H) (hS : va_S (AS 18 Ad) s.heap H locs) (hl : lv_has ls 3 [(0, .ref (Ad 4)), (1, .int v1), (2, .int v2)]) : W p l e rmX3_copyWrites s m args below meth c H locs 0 0 (MQ below (Qcg (PWi (wS Ad cy) D Q) (AS 18 Ad)) args s 0 0 (AS 18 Ad)) (F0 m 37 ls []) := by
  have hx := C.1
  have hb := C.2.1
  obtain ⟨y37, e37⟩ : ∃ y : Int32, y = v2 + (1 : Int32) := ⟨_, rfl⟩
  have h := h y37 e37
  refine lv_iinc (v := y37) (lv' := [(2, .int y37), (0, .ref (Ad 4)), (1, .int v1)]) hx hb dX3_copyWrites_37 hl (k := 2) rfl (by rw [e37]; rfl) (by decide) rfl (fun ls hl => ?_)
  refine lv_goto (tgt := 4) hx hb dX3_copyWrites_40 (by decide) ?_
  exact hk4 h hP hS (lv_sub hl [1, 2, 0] rfl)
def wb_X3_copyWrites_35 (Q : Int32 → Rg → Ar → Prop) (k4 : Rg → Ar → Int32 → Int32 → Prop) (σ : Rg) (μ : Ar) (v2 : Int32) (t0 : Int32) (t1 : Int32) : Prop := ∀ y36 : Int32, y36 = (t1 + t0) → (wb_X3_copyWrites_37 Q k4 σ μ y36 v2)
set_option maxHeartbeats 4000000 in
set_option maxRecDepth 100000 in
theorem wk_X3_copyWrites_35 {p : Program} {l : Launch} {e : Env} {s : State} {m : MethodId} {args : Array Value} {below : List Frame} {meth : Method} {c : Code} {D : va_G} {cy : ClassId} {Ad : Nat → Nat} (C : Cx p s m args meth c RX3 cX3_copyWrites 3 (some FieldType.int) D [(cy, .int)]) (hap : apt 18 Ad) {Q : Int32 → Rg → Ar → Prop} {k4 : Rg → Ar → Int32 → Int32 → Prop} (hk4 : ∀ {σ : Rg} {μ : Ar} {v1 : Int32} {v2 : Int32} {H : Heap} {locs : List Loc} {ls : Array Slot}, k4 σ μ v1 v2 → va_P D vwCl (wS Ad cy σ μ) H → va_S (AS 18 Ad) s.heap H locs → lv_has ls 3 [(0, .ref (Ad 4)), (1, .int v1), (2, .int v2)] → W p l e rmX3_copyWrites s m args below meth c H locs 0 0 (MQ below (Qcg (PWi (wS Ad cy) D Q) (AS 18 Ad)) args s 0 0 (AS 18 Ad)) (F0 m 4 ls [])) {σ : Rg} {μ : Ar} {v2 : Int32} {t0 : Int32} {t1 : Int32} {H : Heap} {locs : List Loc} {ls : Array Slot} (h : wb_X3_copyWrites_35 Q k4 σ μ v2 t0 t1) (hP : va_P D vwCl (wS Ad cy σ μ) H) (hS : va_S (AS 18 Ad) s.heap H locs) (hl : lv_has ls 3 [(0, .ref (Ad 4)), (2, .int v2)]) : W p l e rmX3_copyWrites s m args below meth c H locs 0 0 (MQ below (Qcg (PWi (wS Ad cy) D Q) (AS 18 Ad)) args s 0 0 (AS 18 Ad)) (F0 m 35 ls [.int t0, .int t1]) := by
  have hx := C.1
  have hb := C.2.1
  refine lv_iadd hx hb dX3_copyWrites_35 ?_
  refine lv_topi (fun y36 e36 => ?_)
  have h := h y36 e36
  refine lv_istore_n (lv' := [(1, .int y36), (0, .ref (Ad 4)), (2, .int v2)]) hx hb dX3_copyWrites_36 rfl hl (by decide) rfl (fun ls hl => ?_)
  exact wk_X3_copyWrites_37 C hap hk4 h hP hS (lv_sub hl [1, 0, 2] rfl)
def wb_X3_copyWrites_4 (Q : Int32 → Rg → Ar → Prop) (k4 : Rg → Ar → Int32 → Int32 → Prop) (σ : Rg) (μ : Ar) (v1 : Int32) (v2 : Int32) : Prop := (((48 : Int32) ≤ v2 → Q v1 σ μ) ∧ (¬ (48 : Int32) ≤ v2 → wp_X3_hasValue σ μ v2 (fun r12 σ12 μ12 => ((r12 = 0 → wb_X3_copyWrites_37 Q k4 σ12 μ12 v1 v2) ∧ (¬ r12 = 0 → (((32 : Int32) ≤ v2 → wb_X3_copyWrites_35 Q k4 σ12 μ12 v2 (6 : Int32) v1) ∧ (¬ (32 : Int32) ≤ v2 → wp_X3_valuedSize σ12 μ12 v2 (fun r27 σ27 μ27 => wb_X3_copyWrites_35 Q k4 σ27 μ27 v2 r27 v1))))))))
set_option maxHeartbeats 4000000 in
set_option maxRecDepth 100000 in
theorem wk_X3_copyWrites_4 {p : Program} {l : Launch} {e : Env} {s : State} {m : MethodId} {args : Array Value} {below : List Frame} {meth : Method} {c : Code} {D : va_G} {cy : ClassId} {Ad : Nat → Nat} (C : Cx p s m args meth c RX3 cX3_copyWrites 3 (some FieldType.int) D [(cy, .int)]) (hap : apt 18 Ad) {Q : Int32 → Rg → Ar → Prop} {k4 : Rg → Ar → Int32 → Int32 → Prop} (hk4 : ∀ {σ : Rg} {μ : Ar} {v1 : Int32} {v2 : Int32} {H : Heap} {locs : List Loc} {ls : Array Slot}, k4 σ μ v1 v2 → va_P D vwCl (wS Ad cy σ μ) H → va_S (AS 18 Ad) s.heap H locs → lv_has ls 3 [(0, .ref (Ad 4)), (1, .int v1), (2, .int v2)] → W p l e rmX3_copyWrites s m args below meth c H locs 0 0 (MQ below (Qcg (PWi (wS Ad cy) D Q) (AS 18 Ad)) args s 0 0 (AS 18 Ad)) (F0 m 4 ls [])) {σ : Rg} {μ : Ar} {v1 : Int32} {v2 : Int32} {H : Heap} {locs : List Loc} {ls : Array Slot} (h : wb_X3_copyWrites_4 Q k4 σ μ v1 v2) (hP : va_P D vwCl (wS Ad cy σ μ) H) (hS : va_S (AS 18 Ad) s.heap H locs) (hl : lv_has ls 3 [(0, .ref (Ad 4)), (1, .int v1), (2, .int v2)]) : W p l e rmX3_copyWrites s m args below meth c H locs 0 0 (MQ below (Qcg (PWi (wS Ad cy) D Q) (AS 18 Ad)) args s 0 0 (AS 18 Ad)) (F0 m 4 ls []) := by
  have hx := C.1
  have hb := C.2.1
  refine lv_iload_n hx hb dX3_copyWrites_4 rfl (lv_at hl 2 rfl) ?_
  refine lv_bipush (v := 48) hx hb dX3_copyWrites_5 (by decide) ?_
  refine lv_icmp_ge (tgt := 43) hx hb dX3_copyWrites_7 (by decide) (fun hc => ?_) (fun hc => ?_)
  · have h := h.1 hc
    refine lv_iload_n hx hb dX3_copyWrites_43 rfl (lv_at hl 1 rfl) ?_
    exact endI C hS ⟨_, _, _, rfl, h, hP⟩ dX3_copyWrites_44
  · have h := h.2 hc
    refine lv_aload_n hx hb dX3_copyWrites_10 rfl (lv_at hl 0 rfl) ?_
    refine lv_iload_n hx hb dX3_copyWrites_11 rfl (lv_at hl 2 rfl) ?_
    refine kWi (rnV C (ct_X3_hasValue l D cy Ad hap h) yv_X3_hasValue wq_491 ⟨rfl, rfl⟩ ⟨Nat.le_of_ble_eq_true rfl, Nat.le_of_ble_eq_true rfl⟩ ⟨Nat.zero_le _, Nat.zero_le _⟩ (vS_reading C hP) hP hl.1 rfl rfl (Nat.le_of_ble_eq_true rfl) dX3_copyWrites_12) hS (fun _ h => h) (fun r12 σ12 μ12 H locs h hP hk hS => ?_)
    refine lv_if_eq (tgt := 37) hx hb dX3_copyWrites_15 (by decide) (fun hc => ?_) (fun hc => ?_)
    · have h := h.1 hc
      exact wk_X3_copyWrites_37 C hap hk4 h hP hS (lv_sub hl [0, 1, 2] rfl)
    · have h := h.2 hc
      refine lv_iload_n hx hb dX3_copyWrites_18 rfl (lv_at hl 1 rfl) ?_
      refine lv_iload_n hx hb dX3_copyWrites_19 rfl (lv_at hl 2 rfl) ?_
      refine lv_bipush (v := 32) hx hb dX3_copyWrites_20 (by decide) ?_
      refine lv_icmp_ge (tgt := 33) hx hb dX3_copyWrites_22 (by decide) (fun hc => ?_) (fun hc => ?_)
      · have h := h.1 hc
        refine lv_bipush (v := 6) hx hb dX3_copyWrites_33 (by decide) ?_
        exact wk_X3_copyWrites_35 C hap hk4 h hP hS (lv_sub hl [0, 2] rfl)
      · have h := h.2 hc
        refine lv_aload_n hx hb dX3_copyWrites_25 rfl (lv_at hl 0 rfl) ?_
        refine lv_iload_n hx hb dX3_copyWrites_26 rfl (lv_at hl 2 rfl) ?_
        refine kWi (rnV C (ct_X3_valuedSize l D cy Ad hap h) yv_X3_valuedSize wq_495 ⟨rfl, rfl⟩ ⟨Nat.le_of_ble_eq_true rfl, Nat.le_of_ble_eq_true rfl⟩ ⟨Nat.zero_le _, Nat.zero_le _⟩ (vS_reading C hP) hP hl.1 rfl rfl (Nat.le_of_ble_eq_true rfl) dX3_copyWrites_27) hS (fun _ h => h) (fun r27 σ27 μ27 H locs h hP hk hS => ?_)
        refine lv_goto (tgt := 35) hx hb dX3_copyWrites_30 (by decide) ?_
        exact wk_X3_copyWrites_35 C hap hk4 h hP hS (lv_sub hl [0, 2] rfl)
def wl_X3_copyWrites_4 (Q : Int32 → Rg → Ar → Prop) (n : Nat) : Rg → Ar → Int32 → Int32 → Prop := Nat.rec (motive := fun _ => Rg → Ar → Int32 → Int32 → Prop) (fun _ _ _ _ => False) (fun _ k => wb_X3_copyWrites_4 Q k) n
set_option maxHeartbeats 4000000 in
theorem wkl_X3_copyWrites_4 {p : Program} {l : Launch} {e : Env} {s : State} {m : MethodId} {args : Array Value} {below : List Frame} {meth : Method} {c : Code} {D : va_G} {cy : ClassId} {Ad : Nat → Nat} (C : Cx p s m args meth c RX3 cX3_copyWrites 3 (some FieldType.int) D [(cy, .int)]) (hap : apt 18 Ad) {Q : Int32 → Rg → Ar → Prop}  : ∀ (n : Nat) {σ : Rg} {μ : Ar} {v1 : Int32} {v2 : Int32} {H : Heap} {locs : List Loc} {ls : Array Slot} (h : wl_X3_copyWrites_4 Q  n σ μ v1 v2) (hP : va_P D vwCl (wS Ad cy σ μ) H) (hS : va_S (AS 18 Ad) s.heap H locs) (hl : lv_has ls 3 [(0, .ref (Ad 4)), (1, .int v1), (2, .int v2)]), W p l e rmX3_copyWrites s m args below meth c H locs 0 0 (MQ below (Qcg (PWi (wS Ad cy) D Q) (AS 18 Ad)) args s 0 0 (AS 18 Ad)) (F0 m 4 ls []) := by
  intro n
  induction n with
  | zero => intro σ μ v1 v2 H locs ls h; exact h.elim
  | succ n ih =>
    intro σ μ v1 v2 H locs ls h hP hS hl
    exact wk_X3_copyWrites_4 C hap (fun h hP hS hl => ih h hP hS hl) h hP hS hl
def wp_X3_copyWrites (σ : Rg) (μ : Ar) (Q : Int32 → Rg → Ar → Prop) : Prop := ∃ n, wl_X3_copyWrites_4 Q n σ μ (0 : Int32) (0 : Int32)
set_option maxHeartbeats 4000000 in
set_option maxRecDepth 100000 in
theorem ct_X3_copyWrites (l : Launch) (D : va_G) (cy : ClassId) (Ad : Nat → Nat) (hap : apt 18 Ad) {σ : Rg} {μ : Ar}  {Q : Int32 → Rg → Ar → Prop} (h : wp_X3_copyWrites σ μ  Q) : Ct l yX3_copyWrites cX3_copyWrites 3 (some FieldType.int) rmX3_copyWrites D [(cy, .int)] (fun H => va_P D vwCl (wS Ad cy σ μ) H) [.ref (Ad 4)] (AS 18 Ad) (PWi (wS Ad cy) D Q) := by
  refine Ct.of (by decide) (Nat.le_of_ble_eq_true rfl) ?_
  intro p e s m below meth c ls C hP hl
  have hl : lv_has ls 3 [(0, .ref (Ad 4))] := hl
  have hS : va_S (AS 18 Ad) s.heap s.heap [] := va_S.rf
  have hx := C.1
  have hb := C.2.1
  refine lv_iconst (v := 0) hx hb dX3_copyWrites_0 (by decide) ?_
  refine lv_istore_n (lv' := [(1, .int (0 : Int32)), (0, .ref (Ad 4))]) hx hb dX3_copyWrites_1 rfl hl (by decide) rfl (fun ls hl => ?_)
  refine lv_iconst (v := 0) hx hb dX3_copyWrites_2 (by decide) ?_
  refine lv_istore_n (lv' := [(2, .int (0 : Int32)), (1, .int (0 : Int32)), (0, .ref (Ad 4))]) hx hb dX3_copyWrites_3 rfl hl (by decide) rfl (fun ls hl => ?_)
  obtain ⟨n, h⟩ := h
  exact wkl_X3_copyWrites_4 C hap n h hP hS (lv_sub hl [2, 1, 0] rfl)
abbrev rmX3_valuedTags : Room := { frames := 3, cells := 0, slots := 0, locals := 64 }
def wb_X3_valuedTags_26 (Q : Int64 → Rg → Ar → Prop) (k4 : Rg → Ar → Int64 → Int32 → Prop) (σ : Rg) (μ : Ar) (v3 : Int32) (t0 : Int64) (t1 : Int64) : Prop := ∀ y27 : Int64, y27 = (t1 ||| t0) → (∀ y28 : Int32, y28 = v3 + (1 : Int32) → (k4 σ μ y27 y28))
set_option maxHeartbeats 4000000 in
set_option maxRecDepth 100000 in
theorem wk_X3_valuedTags_26 {p : Program} {l : Launch} {e : Env} {s : State} {m : MethodId} {args : Array Value} {below : List Frame} {meth : Method} {c : Code} {D : va_G} {cy : ClassId} {Ad : Nat → Nat} (C : Cx p s m args meth c RX3 cX3_valuedTags 4 (some FieldType.long) D [(cy, .int)]) (hap : apt 18 Ad) {Q : Int64 → Rg → Ar → Prop} {k4 : Rg → Ar → Int64 → Int32 → Prop} (hk4 : ∀ {σ : Rg} {μ : Ar} {v1 : Int64} {v3 : Int32} {H : Heap} {locs : List Loc} {ls : Array Slot}, k4 σ μ v1 v3 → va_P D vwCl (wS Ad cy σ μ) H → va_S (AS 18 Ad) s.heap H locs → lv_has ls 4 [(0, .ref (Ad 4)), (1, .long v1), (3, .int v3)] → W p l e rmX3_valuedTags s m args below meth c H locs 0 0 (MQ below (Qcg (PWl (wS Ad cy) D Q) (AS 18 Ad)) args s 0 0 (AS 18 Ad)) (F0 m 4 ls [])) {σ : Rg} {μ : Ar} {v3 : Int32} {t0 : Int64} {t1 : Int64} {H : Heap} {locs : List Loc} {ls : Array Slot} (h : wb_X3_valuedTags_26 Q k4 σ μ v3 t0 t1) (hP : va_P D vwCl (wS Ad cy σ μ) H) (hS : va_S (AS 18 Ad) s.heap H locs) (hl : lv_has ls 4 [(0, .ref (Ad 4)), (3, .int v3)]) : W p l e rmX3_valuedTags s m args below meth c H locs 0 0 (MQ below (Qcg (PWl (wS Ad cy) D Q) (AS 18 Ad)) args s 0 0 (AS 18 Ad)) (F0 m 26 ls [.long t0, .long t1]) := by
  have hx := C.1
  have hb := C.2.1
  refine lv_lor hx hb dX3_valuedTags_26 ?_
  refine lv_topl (fun y27 e27 => ?_)
  have h := h y27 e27
  refine lv_lstore_n (lv' := [(1, .long y27), (0, .ref (Ad 4)), (3, .int v3)]) hx hb dX3_valuedTags_27 rfl hl (by decide) rfl (fun ls hl => ?_)
  obtain ⟨y28, e28⟩ : ∃ y : Int32, y = v3 + (1 : Int32) := ⟨_, rfl⟩
  have h := h y28 e28
  refine lv_iinc (v := y28) (lv' := [(3, .int y28), (1, .long y27), (0, .ref (Ad 4))]) hx hb dX3_valuedTags_28 hl (k := 2) rfl (by rw [e28]; rfl) (by decide) rfl (fun ls hl => ?_)
  refine lv_goto (tgt := 4) hx hb dX3_valuedTags_31 (by decide) ?_
  exact hk4 h hP hS (lv_sub hl [2, 1, 0] rfl)
def wb_X3_valuedTags_4 (Q : Int64 → Rg → Ar → Prop) (k4 : Rg → Ar → Int64 → Int32 → Prop) (σ : Rg) (μ : Ar) (v1 : Int64) (v3 : Int32) : Prop := (((48 : Int32) ≤ v3 → Q v1 σ μ) ∧ (¬ (48 : Int32) ≤ v3 → wp_X3_hasValue σ μ v3 (fun r13 σ13 μ13 => ((r13 = 0 → wb_X3_valuedTags_26 Q k4 σ13 μ13 v3 (0 : Int64) v1) ∧ (¬ r13 = 0 → wb_X3_valuedTags_26 Q k4 σ13 μ13 v3 ((1 : Int64) <<< ((v3).toInt64 &&& 63)) v1)))))
set_option maxHeartbeats 4000000 in
set_option maxRecDepth 100000 in
theorem wk_X3_valuedTags_4 {p : Program} {l : Launch} {e : Env} {s : State} {m : MethodId} {args : Array Value} {below : List Frame} {meth : Method} {c : Code} {D : va_G} {cy : ClassId} {Ad : Nat → Nat} (C : Cx p s m args meth c RX3 cX3_valuedTags 4 (some FieldType.long) D [(cy, .int)]) (hap : apt 18 Ad) {Q : Int64 → Rg → Ar → Prop} {k4 : Rg → Ar → Int64 → Int32 → Prop} (hk4 : ∀ {σ : Rg} {μ : Ar} {v1 : Int64} {v3 : Int32} {H : Heap} {locs : List Loc} {ls : Array Slot}, k4 σ μ v1 v3 → va_P D vwCl (wS Ad cy σ μ) H → va_S (AS 18 Ad) s.heap H locs → lv_has ls 4 [(0, .ref (Ad 4)), (1, .long v1), (3, .int v3)] → W p l e rmX3_valuedTags s m args below meth c H locs 0 0 (MQ below (Qcg (PWl (wS Ad cy) D Q) (AS 18 Ad)) args s 0 0 (AS 18 Ad)) (F0 m 4 ls [])) {σ : Rg} {μ : Ar} {v1 : Int64} {v3 : Int32} {H : Heap} {locs : List Loc} {ls : Array Slot} (h : wb_X3_valuedTags_4 Q k4 σ μ v1 v3) (hP : va_P D vwCl (wS Ad cy σ μ) H) (hS : va_S (AS 18 Ad) s.heap H locs) (hl : lv_has ls 4 [(0, .ref (Ad 4)), (1, .long v1), (3, .int v3)]) : W p l e rmX3_valuedTags s m args below meth c H locs 0 0 (MQ below (Qcg (PWl (wS Ad cy) D Q) (AS 18 Ad)) args s 0 0 (AS 18 Ad)) (F0 m 4 ls []) := by
  have hx := C.1
  have hb := C.2.1
  refine lv_iload_n hx hb dX3_valuedTags_4 rfl (lv_at hl 2 rfl) ?_
  refine lv_bipush (v := 48) hx hb dX3_valuedTags_5 (by decide) ?_
  refine lv_icmp_ge (tgt := 34) hx hb dX3_valuedTags_7 (by decide) (fun hc => ?_) (fun hc => ?_)
  · have h := h.1 hc
    refine lv_lload_n hx hb dX3_valuedTags_34 rfl (lv_at hl 1 rfl) ?_
    exact endL C hS ⟨_, _, _, rfl, h, hP⟩ dX3_valuedTags_35
  · have h := h.2 hc
    refine lv_lload_n hx hb dX3_valuedTags_10 rfl (lv_at hl 1 rfl) ?_
    refine lv_aload_n hx hb dX3_valuedTags_11 rfl (lv_at hl 0 rfl) ?_
    refine lv_iload_n hx hb dX3_valuedTags_12 rfl (lv_at hl 2 rfl) ?_
    refine kWi (rnV C (ct_X3_hasValue l D cy Ad hap h) yv_X3_hasValue wq_491 ⟨rfl, rfl⟩ ⟨Nat.le_of_ble_eq_true rfl, Nat.le_of_ble_eq_true rfl⟩ ⟨Nat.zero_le _, Nat.zero_le _⟩ (vS_reading C hP) hP hl.1 rfl rfl (Nat.le_of_ble_eq_true rfl) dX3_valuedTags_13) hS (fun _ h => h) (fun r13 σ13 μ13 H locs h hP hk hS => ?_)
    refine lv_if_eq (tgt := 25) hx hb dX3_valuedTags_16 (by decide) (fun hc => ?_) (fun hc => ?_)
    · have h := h.1 hc
      refine lv_lconst (v := 0) hx hb dX3_valuedTags_25 (by decide) ?_
      exact wk_X3_valuedTags_26 C hap hk4 h hP hS (lv_sub hl [0, 2] rfl)
    · have h := h.2 hc
      refine lv_lconst (v := 1) hx hb dX3_valuedTags_19 (by decide) ?_
      refine lv_iload_n hx hb dX3_valuedTags_20 rfl (lv_at hl 2 rfl) ?_
      refine lv_lshl hx hb dX3_valuedTags_21 rfl ?_
      refine lv_goto (tgt := 26) hx hb dX3_valuedTags_22 (by decide) ?_
      exact wk_X3_valuedTags_26 C hap hk4 h hP hS (lv_sub hl [0, 2] rfl)
def wl_X3_valuedTags_4 (Q : Int64 → Rg → Ar → Prop) (n : Nat) : Rg → Ar → Int64 → Int32 → Prop := Nat.rec (motive := fun _ => Rg → Ar → Int64 → Int32 → Prop) (fun _ _ _ _ => False) (fun _ k => wb_X3_valuedTags_4 Q k) n
set_option maxHeartbeats 4000000 in
theorem wkl_X3_valuedTags_4 {p : Program} {l : Launch} {e : Env} {s : State} {m : MethodId} {args : Array Value} {below : List Frame} {meth : Method} {c : Code} {D : va_G} {cy : ClassId} {Ad : Nat → Nat} (C : Cx p s m args meth c RX3 cX3_valuedTags 4 (some FieldType.long) D [(cy, .int)]) (hap : apt 18 Ad) {Q : Int64 → Rg → Ar → Prop}  : ∀ (n : Nat) {σ : Rg} {μ : Ar} {v1 : Int64} {v3 : Int32} {H : Heap} {locs : List Loc} {ls : Array Slot} (h : wl_X3_valuedTags_4 Q  n σ μ v1 v3) (hP : va_P D vwCl (wS Ad cy σ μ) H) (hS : va_S (AS 18 Ad) s.heap H locs) (hl : lv_has ls 4 [(0, .ref (Ad 4)), (1, .long v1), (3, .int v3)]), W p l e rmX3_valuedTags s m args below meth c H locs 0 0 (MQ below (Qcg (PWl (wS Ad cy) D Q) (AS 18 Ad)) args s 0 0 (AS 18 Ad)) (F0 m 4 ls []) := by
  intro n
  induction n with
  | zero => intro σ μ v1 v3 H locs ls h; exact h.elim
  | succ n ih =>
    intro σ μ v1 v3 H locs ls h hP hS hl
    exact wk_X3_valuedTags_4 C hap (fun h hP hS hl => ih h hP hS hl) h hP hS hl
def wp_X3_valuedTags (σ : Rg) (μ : Ar) (Q : Int64 → Rg → Ar → Prop) : Prop := ∃ n, wl_X3_valuedTags_4 Q n σ μ (0 : Int64) (0 : Int32)
set_option maxHeartbeats 4000000 in
set_option maxRecDepth 100000 in
theorem ct_X3_valuedTags (l : Launch) (D : va_G) (cy : ClassId) (Ad : Nat → Nat) (hap : apt 18 Ad) {σ : Rg} {μ : Ar}  {Q : Int64 → Rg → Ar → Prop} (h : wp_X3_valuedTags σ μ  Q) : Ct l yX3_valuedTags cX3_valuedTags 4 (some FieldType.long) rmX3_valuedTags D [(cy, .int)] (fun H => va_P D vwCl (wS Ad cy σ μ) H) [.ref (Ad 4)] (AS 18 Ad) (PWl (wS Ad cy) D Q) := by
  refine Ct.of (by decide) (Nat.le_of_ble_eq_true rfl) ?_
  intro p e s m below meth c ls C hP hl
  have hl : lv_has ls 4 [(0, .ref (Ad 4))] := hl
  have hS : va_S (AS 18 Ad) s.heap s.heap [] := va_S.rf
  have hx := C.1
  have hb := C.2.1
  refine lv_lconst (v := 0) hx hb dX3_valuedTags_0 (by decide) ?_
  refine lv_lstore_n (lv' := [(1, .long (0 : Int64)), (0, .ref (Ad 4))]) hx hb dX3_valuedTags_1 rfl hl (by decide) rfl (fun ls hl => ?_)
  refine lv_iconst (v := 0) hx hb dX3_valuedTags_2 (by decide) ?_
  refine lv_istore_n (lv' := [(3, .int (0 : Int32)), (1, .long (0 : Int64)), (0, .ref (Ad 4))]) hx hb dX3_valuedTags_3 rfl hl (by decide) rfl (fun ls hl => ?_)
  obtain ⟨n, h⟩ := h
  exact wkl_X3_valuedTags_4 C hap n h hP hS (lv_sub hl [2, 1, 0] rfl)
