/-! at of the class throws, at of the law catches -/
abbrev xat : List Cond := nxAt RX5 120
def isXtra : Cond → Bool
  | .castable .. => true
  | .declares _ => true
  | _ => false
def xw : List Cond := lw_tbl.filter isXtra
def XW (U : State) : Prop := ∀ w ∈ xw, va_Nw w U
theorem xtraTab {w : Cond} (h : isXtra w = true) : w.onTables = true := by
  cases w <;> first | rfl | (simp [isXtra] at h)
theorem XW.warm {s U : State} (hW : s.WarmedH U.vm) (h : XW s) : XW U := by
  intro w hw
  have h1 := h w hw
  have h2 := (List.mem_filter.mp hw).2
  cases w <;> first | exact va_Nw.warmC hW h1 | exact va_Nw.warmD hW h1 | (simp [isXtra] at h2)
theorem XW.same {u U : State} (hv : u.vm = U.vm) (h : XW u) : XW U := fun w hw => va_Nw.same (xtraTab (List.mem_filter.mp hw).2) hv (h w hw)
theorem XW.of {A : Array Value} {s : State} (h : ∀ w ∈ lw_tbl, w.before A s = true) : XW s := fun w hw => va_Nw.of (xtraTab (List.mem_filter.mp hw).2) (h w (List.mem_filter.mp hw).1)
theorem xat_good0 : ∀ w ∈ xat.filter goodWord, w ∈ lw_tbl := by decide +kernel
theorem xat_good : ∀ w ∈ xat.filter goodWord, w ∈ gw := fun w hw => List.mem_filter.mpr ⟨xat_good0 w hw, (List.mem_filter.mp hw).2⟩
theorem xat_rest0 : ∀ w ∈ xat.filter (fun w => !goodWord w), w ∈ lw_tbl ∧ isXtra w = true := by decide +kernel
theorem xat_rest : ∀ w ∈ xat.filter (fun w => !goodWord w), w ∈ xw := fun w hw => List.mem_filter.mpr (xat_rest0 w hw)
theorem xcast : Cond.castable NSE NSE ∈ xw := List.mem_filter.mpr (by decide +kernel)
theorem xat_ot : ∀ w ∈ Cond.classLink RX5 116 NSE :: Cond.initialized NSE :: xat, vx_ot w = true := by decide +kernel
/-- what a throw needs of the start: the statics of Throwable, the text, a cast -/
def EX (A : Nat → Prop) (sa : Nat) (U : State) (H : Heap) : Prop := XW U ∧ vk_R RX5 118 "no such byte" sa U ∧ vx_Zq Bundle.tN "UNASSIGNED_STACK" Bundle.steD A U H ∧ vx_Zq Bundle.tN "SUPPRESSED_SENTINEL" Bundle.listD A U H
theorem EX.warm {A : Nat → Prop} {sa : Nat} {s U : State} {H : Heap} (hW : s.WarmedH U.vm) (h : EX A sa s H) : EX A sa U H := ⟨h.1.warm hW, h.2.1.warm hW, h.2.2.1.moved hW.alike, h.2.2.2.moved hW.alike⟩
theorem EX.same {A : Nat → Prop} {sa : Nat} {u U : State} {H : Heap} (hv : u.vm = U.vm) (h : EX A sa u H) : EX A sa U H := ⟨h.1.same hv, h.2.1.same hv.symm, h.2.2.1.moved (by rw [hv]; exact Vm.Alike.refl _), h.2.2.2.moved (by rw [hv]; exact Vm.Alike.refl _)⟩
theorem EX.kept {A : Nat → Prop} {sa : Nat} {U : State} {H H1 : Heap} (h : EX A sa U H) (hq : ∀ a : Nat, a < H.size → ¬ A a → H1[a]? = H[a]?) : EX A sa U H1 := ⟨h.1, h.2.1, h.2.2.1.kept hq, h.2.2.2.kept hq⟩
theorem EX.narrow {A B : Nat → Prop} {sa : Nat} {U : State} {H : Heap} (h : EX A sa U H) (hAB : ∀ q, B q → A q) : EX B sa U H := ⟨h.1, h.2.1, h.2.2.1.narrow hAB, h.2.2.2.narrow hAB⟩
def wp_X5_at (σa : Rg) (μa : Ar) (σb : Rg) (μb : Ar) (x1 x2 : Int32) (Q : Int32 → Rg → Ar → Rg → Ar → Prop) (QX : Rg → Ar → Rg → Ar → Prop) : Prop := wp_X1_holds σa μa x1 x2 (fun r σ μ => (¬ r = 0 → wp_X1_peek σ μ x1 x2 (fun r2 σ2 μ2 => Q r2 σ2 μ2 σb μb)) ∧ (r = 0 → QX σ μ σb μb))
abbrev rmX5_at : Room := { frames := 6, cells := 1, slots := 6, locals := 90 }
abbrev PcAt (D : va_G) (cy : ClassId) (x0 : Nat) (Aa Ab : Nat → Nat) (sa : Nat) (σa : Rg) (μa : Ar) (σb : Rg) (μb : Ar) (av : List Value) : Array Value → State → Prop := va_Pc av (fun U => (va_P D vwCl (wS Aa cy σa μa) U.heap ∧ va_P D vwCl (wS Ab cy σb μb) U.heap ∧ va_P D vwCl (wX x0 Aa Ab) U.heap) ∧ va_K D vwCl [(cy, .int)] U ∧ NW U ∧ EX (AX Aa Ab) sa U U.heap)
abbrev QcAt (x0 : Nat) (Aa Ab : Nat → Nat) (cy : ClassId) (D : va_G) (Q : Int32 → Rg → Ar → Rg → Ar → Prop) : Array Value → State → Outcome → State → Prop := va_Qi (fun r (u : Rg × Ar × Rg × Ar) => Q r u.1 u.2.1 u.2.2.1 u.2.2.2) (fun u t => va_P D vwCl (wS Aa cy u.1 u.2.1) t.heap ∧ va_P D vwCl (wS Ab cy u.2.2.1 u.2.2.2) t.heap ∧ va_P D vwCl (wX x0 Aa Ab) t.heap) (AX Aa Ab)
abbrev XcAt (x0 : Nat) (Aa Ab : Nat → Nat) (cy : ClassId) (D : va_G) (QX : Rg → Ar → Rg → Ar → Prop) : String → State → State → Prop := vx_X (fun u : Rg × Ar × Rg × Ar => QX u.1 u.2.1 u.2.2.1 u.2.2.2) (fun E u t => E = NSE ∧ va_P D vwCl (wS Aa cy u.1 u.2.1) t.heap ∧ va_P D vwCl (wS Ab cy u.2.2.1 u.2.2.2) t.heap ∧ va_P D vwCl (wX x0 Aa Ab) t.heap) (AX Aa Ab)
set_option maxHeartbeats 4000000 in
set_option maxRecDepth 100000 in
theorem ct_X5_at (l : Launch) (hlt : l.stackTraces = false) (D : va_G) (cy : ClassId) (x0 : Nat) (Aa Ab : Nat → Nat) (hap : apX x0 Aa Ab) (sa : Nat) {σa : Rg} {μa : Ar} {σb : Rg} {μb : Ar} {x1 x2 : Int32} {Q : Int32 → Rg → Ar → Rg → Ar → Prop} {QX : Rg → Ar → Rg → Ar → Prop} (h : wp_X5_at σa μa σb μb x1 x2 Q QX) :
    vx_Met l yX5_at (wy yX5_at cX5_at 3 (some FieldType.int)) rmX5_at (PcAt D cy x0 Aa Ab sa σa μa σb μb [.ref x0, .int x1, .int x2]) (QcAt x0 Aa Ab cy D Q) (XcAt x0 Aa Ab cy D QX) 1 6 (AX Aa Ab) := by
  refine vx_ofW (cc := cX5_at) (maxL := 3) (ret := some FieldType.int) (by decide) rfl ?_
  intro p e s m args below meth c s₁ B hml htab hv
  obtain ⟨rfl, ⟨hPa, hPb, hPx⟩, hK, hN, hE⟩ := hv
  have hts0 := atoms_spec (ws := wy yX5_at cX5_at 3 (some FieldType.int)) B.pre
  have C : Cx p s m [Value.ref x0, .int x1, .int x2].toArray meth c RX5 cX5_at 3 (some FieldType.int) D [(cy, .int)] := ⟨B.exec, B.bytes, hml, findClass_of_methodNamed B.named, B.returns, B.notSynchronized, fun w h => hts0 w (List.mem_cons_of_mem _ h), hK, hN⟩
  have hS : va_S (AX Aa Ab) s.heap s.heap [] := va_S.rf
  have hl := lv_entry ([.ref x0, .int x1, .int x2]) (n := 3) (Nat.le_of_ble_eq_true rfl)
  rw [lg_entry_eq]
  generalize (lg_sl ([.ref x0, .int x1, .int x2]) ++ List.replicate (3 - (lg_sl ([.ref x0, .int x1, .int x2])).length) Slot.unset).toArray = ls at hl ⊢
  have hl : lv_has ls 3 [(0, .ref x0), (1, .int x1), (2, .int x2)] := hl
  have hx := C.1
  have hb := C.2.1
  refine lv_aload_n hx hb dX5_at_0 rfl (lv_at hl 0 rfl) ?_
  refine gX_store C hPx (C.2.2.2.2.2.2.1 _ wq_336) dX5_at_1 ?_
  refine gnS_store_chip C hPa (NW.use C.2.2.2.2.2.2.2.2 wn_310) dX5_at_4 ?_
  refine lv_iload_n hx hb dX5_at_7 rfl (lv_at hl 1 rfl) ?_
  refine lv_iload_n hx hb dX5_at_8 rfl (lv_at hl 2 rfl) ?_
  refine kWi (rnVN C (ct_X1_holds l D cy Aa hap.1 h) yv_X1_holds wn_530 ⟨rfl, rfl⟩ ⟨Nat.le_of_ble_eq_true rfl, Nat.le_of_ble_eq_true rfl⟩ ⟨Nat.zero_le _, Nat.zero_le _⟩ (vS_chip C hPa) hPa hl.1 rfl rfl (Nat.le_of_ble_eq_true rfl) dX5_at_9) hS (fun _ h => Or.inl h) (fun r9 σ9 μ9 H locs h hPa hk hS => ?_)
  have hPb := keepW rS hap.2.2.1 hPb hk
  have hPx := keepW (rX (x0 := x0) (Aa := Aa) (Ab := Ab)) (fun _ _ => hap.2.2.2.2.1) hPx hk
  refine lv_if_ne (tgt := 25) hx hb dX5_at_12 (by decide) (fun hc => ?_) (fun hc => ?_)
  · have h := h.1 hc
    refine lv_aload_n hx hb dX5_at_25 rfl (lv_at hl 0 rfl) ?_
    refine gX_store C hPx (C.2.2.2.2.2.2.1 _ wq_336) dX5_at_26 ?_
    refine gnS_store_chip C hPa (NW.use C.2.2.2.2.2.2.2.2 wn_310) dX5_at_29 ?_
    refine lv_iload_n hx hb dX5_at_32 rfl (lv_at hl 1 rfl) ?_
    refine lv_iload_n hx hb dX5_at_33 rfl (lv_at hl 2 rfl) ?_
    refine kWi (rnVN C (ct_X1_peek l D cy Aa hap.1 h) yv_X1_peek wn_715 ⟨rfl, rfl⟩ ⟨Nat.le_of_ble_eq_true rfl, Nat.le_of_ble_eq_true rfl⟩ ⟨Nat.zero_le _, Nat.zero_le _⟩ (vS_chip C hPa) hPa hl.1 rfl rfl (Nat.le_of_ble_eq_true rfl) dX5_at_34) hS (fun _ h => Or.inl h) (fun r34 σ34 μ34 H locs h hPa hk hS => ?_)
    have hPb := keepW rS hap.2.2.1 hPb hk
    have hPx := keepW (rX (x0 := x0) (Aa := Aa) (Ab := Ab)) (fun _ _ => hap.2.2.2.2.1) hPx hk
    refine W.widen (k := 1) (n := 6) (Nat.zero_le _) (Nat.zero_le _) ?_
    refine vx_ret ?_
    exact W.iret C.1 C.2.1 C.2.2.2.2.1 (fun t ht hW => ⟨⟨r34, (σ34, μ34, σb, μb), rfl, h, by dsimp only; rw [ht]; exact ⟨hPa, hPb, hPx⟩⟩, hS.F ht⟩) hS.2.2 dX5_at_37 C.2.2.2.2.2.1
  · have h := h.2 hc
    have hat : ∀ w ∈ xat, w.before [Value.ref x0, .int x1, .int x2].toArray s = true := vx_hat (fun w hw => C.2.2.2.2.2.2.1 w (xat_good w hw)) xat_rest (fun w hw => va_Nw.use (xtraTab (List.mem_filter.mp hw).2) (hE.1 w hw))
    refine nx_make (own := RX5) (text := "no such byte") (ik := 116) (is := 118) (ic := 120) (sa := sa) hx hb hlt C.2.2.2.1 (C.2.2.2.2.2.2.1 _ wq_848) (C.2.2.2.2.2.2.1 _ wq_144) hE.2.1 hat xat_ot hE.2.2.1 hE.2.2.2 hS (by rw [C.2.2.1]; exact hl.1) dX5_at_15 dX5_at_18 dX5_at_19 dX5_at_21 (by decide) (by decide) (by decide) (by decide) (fun qx ce H1 hce hvm hcl hz hq => ?_)
    refine vx_athrow hx hb dX5_at_24 ?_
    refine vx_out (fun x hx => (htab x hx).elim) C.2.2.2.2.2.1 hce hvm hcl (fun t ht hv => ?_) hS.2.2 (Nat.le_refl _) (Nat.le_refl _)
    rw [← ht] at hz hq
    refine ⟨(σ9, μ9, σb, μb), h, ⟨rfl, hPa.kept (fun k q hk2 => hq q.1 (hPa k q hk2).lt), hPb.kept (fun k q hk2 => hq q.1 (hPb k q hk2).lt), hPx.kept (fun k q hk2 => hq q.1 (hPx k q hk2).lt)⟩, Nat.le_trans hS.1 hz, fun q h1 h2 => ?_⟩
    rw [hq q (Nat.lt_of_lt_of_le h1 hS.1)]
    exact hS.2.1 q h1 h2
/-- the law's own row of one long -/
def wO (o : Nat) (cl : ClassId) (f : Nat → Int64) : va_W := [(o, .inl (cl, 1, .inr (.inl f)))]
def AL (o : Nat) (Aa Ab : Nat → Nat) : Nat → Prop := fun q => AX Aa Ab q ∨ q = o
abbrev rmL_at : Room := { frames := 7, cells := 1, slots := 6, locals := 8 + (3 + 11) + 90 }
def wp_L_at (σa : Rg) (μa : Ar) (σb : Rg) (μb : Ar) (f : Nat → Int64) (x1 x2 : Int32) (Q : Int32 → Rg → Ar → Rg → Ar → (Nat → Int64) → Prop) : Prop := wp_X5_at σa μa σb μb x1 x2 (fun r σa μa σb μb => Q 0 σa μa σb μb (vp_updL f 0 r.toInt64)) (fun σa μa σb μb => Q 1 σa μa σb μb f)
def wyL : List Cond := Cond.codeWith yL_at cL_at 5 (some FieldType.int) [(0, 10, 13, 13)] :: gw
set_option maxHeartbeats 4000000 in
set_option maxRecDepth 100000 in
theorem ct_L_at (l : Launch) (hlt : l.stackTraces = false) (D : va_G) (cy cl : ClassId) (x0 o : Nat) (Aa Ab : Nat → Nat) (hap : apX x0 Aa Ab) (ho : ¬ AX Aa Ab o) (hox : x0 ≠ o) (sa : Nat) {σa : Rg} {μa : Ar} {σb : Rg} {μb : Ar} {f : Nat → Int64} {x1 x2 : Int32} {Q : Int32 → Rg → Ar → Rg → Ar → (Nat → Int64) → Prop} (h : wp_L_at σa μa σb μb f x1 x2 Q) :
    Met l yL_at wyL rmL_at (va_Pc [.ref x0, .int x1, .int x2, .ref o] (fun U => (va_P D vwCl (wS Aa cy σa μa) U.heap ∧ va_P D vwCl (wS Ab cy σb μb) U.heap ∧ va_P D vwCl (wX x0 Aa Ab) U.heap ∧ va_P D vwCl (wO o cl f) U.heap) ∧ va_K D vwCl [(cy, .int), (cl, .long)] U ∧ NW U ∧ EX (AL o Aa Ab) sa U U.heap)) (va_Qi (fun r (u : Rg × Ar × Rg × Ar × (Nat → Int64)) => Q r u.1 u.2.1 u.2.2.1 u.2.2.2.1 u.2.2.2.2) (fun u t => va_P D vwCl (wS Aa cy u.1 u.2.1) t.heap ∧ va_P D vwCl (wS Ab cy u.2.2.1 u.2.2.2.1) t.heap ∧ va_P D vwCl (wX x0 Aa Ab) t.heap ∧ va_P D vwCl (wO o cl u.2.2.2.2) t.heap) (AL o Aa Ab)) 1 6 (AL o Aa Ab) := by
  refine va_MetW (cc := cL_at) (maxL := 5) (ret := some FieldType.int) (hh := [(0, 10, 13, 13)]) (by decide) rfl ?_
  intro p e s m args below meth c s₁ B hml hv
  obtain ⟨rfl, ⟨hPa, hPb, hPx, hPo⟩, hK, hN, hE⟩ := hv
  have hts0 := atoms_spec (ws := wyL) B.pre
  have C : Cx p s m [Value.ref x0, .int x1, .int x2, .ref o].toArray meth c RL cL_at 5 (some FieldType.int) D [(cy, .int), (cl, .long)] := ⟨B.exec, B.bytes, hml, findClass_of_methodNamed B.named, B.returns, B.notSynchronized, fun w h => hts0 w (List.mem_cons_of_mem _ h), hK, hN⟩
  have htb : c.exceptionTable.toList = tableOf [(0, 10, 13, 13)] := vx_table (x := yL_at) B (hts0 _ List.mem_cons_self)
  have hS : va_S (AL o Aa Ab) s.heap s.heap [] := va_S.rf
  have hl := lv_entry ([.ref x0, .int x1, .int x2, .ref o]) (n := 5) (Nat.le_of_ble_eq_true rfl)
  rw [lg_entry_eq]
  generalize (lg_sl ([.ref x0, .int x1, .int x2, .ref o]) ++ List.replicate (5 - (lg_sl ([.ref x0, .int x1, .int x2, .ref o])).length) Slot.unset).toArray = ls at hl ⊢
  have hl : lv_has ls 5 [(0, .ref x0), (1, .int x1), (2, .int x2), (3, .ref o)] := hl
  have hx := C.1
  have hb := C.2.1
  have hts := C.2.2.2.2.2.2.1
  refine lv_aload_n hx hb dL_at_0 rfl (lv_at hl 3 rfl) ?_
  refine lv_iconst (v := 0) hx hb dL_at_1 (by decide) ?_
  refine lv_aload_n hx hb dL_at_2 rfl (lv_at hl 0 rfl) ?_
  refine lv_iload_n hx hb dL_at_3 rfl (lv_at hl 1 rfl) ?_
  refine lv_iload_n hx hb dL_at_4 rfl (lv_at hl 2 rfl) ?_
  have hOx : ∀ k : Nat, k < 1 → ¬ AX Aa Ab ((fun _ => o) k) := fun _ _ => ho
  refine vx_calli (vx_runV (As := [.int x1, .int x2]) (rest := [.int 0, .ref o]) (Ts := gw) (C := RX5) (bytes := cX5_at) (maxL := 3) (ret := some FieldType.int) (n := 2) ⟨hx, hb, C.2.2.1, C.2.2.2.1, hts⟩ (ct_X5_at l hlt D cy x0 Aa Ab hap sa h) ⟨callB_of 2 hts (gwGood wq_847) rfl rfl rfl (hts _ wq_130) (hts _ wq_844) (by decide +kernel) ⟨Nat.le_of_ble_eq_true rfl, Nat.le_of_ble_eq_true rfl⟩, hts _ wq_845, hts _ wq_846⟩ ⟨fun a U g mk hq => ⟨hq.1, hq.2.1, va_K.moved (u := U) (U := U.calling g mk a) (Vm.Alike.refl U.vm) hq.2.2.1, NW.same (u := U) (U := U.calling g mk a) rfl hq.2.2.2.1, EX.same (u := U) (U := U.calling g mk a) rfl hq.2.2.2.2⟩, vX C hPx, fun U hU hW => ⟨rfl, by rw [hU]; exact ⟨hPa, hPb, hPx⟩, va_K.moved hW.alike (C.2.2.2.2.2.2.2.1.sub [0] rfl), C.2.2.2.2.2.2.2.2.warm hW, by rw [hU]; exact (hE.warm hW).narrow (fun q hq => Or.inl hq)⟩⟩ rfl rfl hl.1 rfl (lv_room (Nat.le_of_ble_eq_true rfl)) dL_at_5 ⟨Nat.le_of_ble_eq_true rfl, Nat.le_of_ble_eq_true rfl⟩) hS (fun q _ h => Or.inl h) (fun q h => Or.inl h) (fun q _ h => Or.inl h) (fun E ce q9 u t H1 locs ht hvm hw hB hz1 hk1 hS hq9 hce hcl => ?_) (fun r u t H1 locs ht hvm hw hB hz1 hk1 hS => ?_)
  · obtain ⟨rfl, hPa, hPb, hPx⟩ := hB
    rw [ht] at hPa hPb hPx
    have hPo := keepW (n := 1) (Ad := fun _ => o) (ws := wO o cl f) rfl hOx hPo hk1
    refine vx_catch (own := RL) (name := NSE) C.2.2.2.1 [] ⟨0, 10, 13, 13⟩ [] (by rw [htb]; rfl) (fun z hz => by cases hz) (by decide) (by decide) (hts _ wq_843) (va_Nw.use rfl (hE.1 _ xcast)) hq9 hce hcl ?_
    refine lv_astore (lv' := [(4, .ref q9), (0, .ref x0), (1, .int x1), (2, .int x2), (3, .ref o)]) hx hb dL_at_13 hl (by decide) rfl (fun ls hl => ?_)
    refine lv_iconst (v := 1) hx hb dL_at_15 (by decide) ?_
    exact W.iret C.1 C.2.1 C.2.2.2.2.1 (fun t ht hW => ⟨⟨1, (u.1, u.2.1, u.2.2.1, u.2.2.2, f), rfl, hw, by dsimp only; rw [ht]; exact ⟨hPa, hPb, hPx, hPo⟩⟩, hS.F ht⟩) hS.2.2 dL_at_16 C.2.2.2.2.2.1
  · obtain ⟨hPa, hPb, hPx⟩ := hB
    rw [ht] at hPa hPb hPx
    have hPo := keepW (n := 1) (Ad := fun _ => o) (ws := wO o cl f) rfl hOx hPo hk1
    refine lv_i2l hx hb dL_at_8 rfl ?_
    have e0 : (0 : Int32).toNatClampNeg = 0 := by decide
    have hapa : ∀ k, k < 18 → Aa k ≠ o := fun k hk e => ho (Or.inl ⟨k, hk, e.symm⟩)
    have hapb : ∀ k, k < 18 → Ab k ≠ o := fun k hk e => ho (Or.inr ⟨k, hk, e.symm⟩)
    refine W.last hx hb (hPo 0 _ rfl) ((C.2.2.2.2.2.2.2.1.2 1 _ rfl).1 1 (fun j => .long (f j))) (fun q => by cases q) (by show ¬ ((0 : Int32) < 0 ∨ (arrV _ _ _).slots.size ≤ _); rw [arrV_size]; show ¬ ((0 : Int32) < 0 ∨ 1 ≤ (0 : Int32).toNatClampNeg); decide) rfl rfl dL_at_9 fun H2 e2 z2 oq => ?_
    have hPa : va_P D vwCl (wS Aa cy u.1 u.2.1) H2 := hPa.kept (fun k q hk2 => oq q.1 (by rw [(rS.at hk2).2]; exact hapa k (rS.at hk2).1))
    have hPb : va_P D vwCl (wS Ab cy u.2.2.1 u.2.2.2) H2 := hPb.kept (fun k q hk2 => oq q.1 (by rw [(rS.at hk2).2]; exact hapb k (rS.at hk2).1))
    have hPx : va_P D vwCl (wX x0 Aa Ab) H2 := hPx.kept (fun k q hk2 => oq q.1 (by rw [(rX.at hk2).2]; exact hox))
    have hS := hS.put (k := (0 : Int32).toNatClampNeg) z2 oq (Or.inr rfl)
    have hPo : va_P D vwCl (wO o cl (vp_updL f 0 r.toInt64)) H2 := by
      intro k q hk2
      have hz : k < 1 := (List.getElem?_eq_some_iff.mp hk2).1
      rw [show k = 0 by omega] at hk2
      cases hk2
      show H2[o]? = some (vp_cell _ _)
      rw [e2]
      rw [vp_cell_l, vp_cell_l, arrV_store]
      congr 2
      funext q
      by_cases hq : q = 0
      · subst hq
        simp [updV, vp_updL, e0]
      · simp [updV, vp_updL, hq, e0]
    refine W.eq (g2 := F0 m 10 ls []) rfl ?_
    refine lv_goto (tgt := 17) hx hb dL_at_10 (by decide) ?_
    refine lv_iconst (v := 0) hx hb dL_at_17 (by decide) ?_
    exact W.iret C.1 C.2.1 C.2.2.2.2.1 (fun t ht hW => ⟨⟨0, (u.1, u.2.1, u.2.2.1, u.2.2.2, vp_updL f 0 r.toInt64), rfl, hw, by dsimp only; rw [ht]; exact ⟨hPa, hPb, hPx, hPo⟩⟩, hS.F ht⟩) hS.2.2 dL_at_18 C.2.2.2.2.2.1
