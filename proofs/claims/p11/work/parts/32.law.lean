/-! THE CLAIM OUT OF ONE WALK OF THE LAW'S BODY. Your part is whole_start (and what it stands on); all else here is the same for every law, but numbers. -/
def R_law : String := "SettingStoreLaw"
def lw_P (b : Addr) (xs : List Int32) (args : Array Value) (s : State) : Prop := args = #[.ref b] ∧ s.IntsAt b xs ∧ xs.length ≤ 3584 ∧ (Jvm.Cond.and given_1 narrow_1).before args s = true
/-- what a walk over the start with the record d0 says of its end, said of the start itself -/
theorem lw_closed {s t : State} {o : Outcome} {d0 : Drawn} {L : List Loc} {k n : Nat} (hd0 : s.drawn.sameBut d0 lw_cs) (hv : ∃ v, o = .returned v) (hW : (s.setDrawn d0).WarmedH t.vm) (hs : (s.setDrawn d0).sameButNew ({ t with vm := s.vm } : State) L k n) : State.butDraws s t lw_cs (fun t1 => Framed s o t1 L k n) := by
  have h2 : t.drawn = d0 := congrArg State.drawn hs.1
  refine ⟨⟨hv, hW, State.sameButNew.setDrawn hs s.drawn⟩, ?_, by decide⟩
  rw [h2]
  exact hd0
def lw_Q (_ : Array Value) (s : State) (o : Outcome) (t : State) : Prop := o = .returned (some (.int 1)) ∧ State.butDraws s t lw_cs (fun t1 => Framed s o t1 [] 1071 12584)
def lw_Z (below : List Frame) (a : Array Value) (s : State) : State → Prop := fun t => ∃ o, t.status = .running ∧ Ended t below o ∧ lw_Q a s o t
/-- the law's own end, with 1 on the stack, nothing written that was there before, its room as the claim has it; d0: the record of draws at this point (at the entry s.drawn: begin with 'refine W.base ?_' and 'have hd0 := Drawn.sameBut.refl s.drawn lw_cs') -/
theorem lw_ret {p : Program} {l : Launch} {e : Env} {s : State} {m : MethodId} {below : List Frame} {meth : Method} {c : Code} {b : Nat} {d0 : Drawn} (hd0 : s.drawn.sameBut d0 lw_cs) (hx : p.tables.exec = Jvm.exec) (hb : c.code = code) (hr : meth.sig.returnType = ret) (hlocks : meth.locks = false) {pc : Nat} {H : Heap} {ls : Array Slot} (hdg : decode code pc = .ok (.ireturn, 1)) : W p l e room_1 (s.setDrawn d0) m #[Value.ref b] below meth c H [] 1071 12584 (lw_Z below #[Value.ref b] s) (F0 m pc ls [.int 1]) := by
  intro T hT X
  obtain ⟨fs, hret, hrun, hended, hW, hframe⟩ := X.leave (v := some (.int 1)) (hlocks := hlocks) (fun h => by rw [hr] at h; cases h)
  have hmeth' : T.vm.method? m = some meth := X.method'
  refine ⟨T.setFrames fs, ?_, .returned (some (.int 1)), hrun, hended, rfl, lw_closed hd0 ⟨_, rfl⟩ hW hframe⟩
  jvm_step X.here [X.here.top, hx, hb, hdg, hmeth', hr, ret, narrow_b1]
  (try refine ⟨rfl, ?_⟩); (try refine ⟨rfl, ?_⟩)
  first | (intro acts; rw [hret _ acts rfl rfl rfl]) | rw [hret _ _ rfl rfl rfl]
  exact Steps.refl _
/-- what holds at the law's entry: the machine, the code, the tables' words (any of lw_tbl by 'hts w (by decide +kernel)'), the script of L ints xs at the cell b, what the Statement gives of the start (any of its parts by flat_of_before) -/
def lw_At (p : Program) (s : State) (m : MethodId) (meth : Method) (c : Code) (b L : Nat) (xs : Nat → Int32) : Prop :=
  p.tables.exec = Jvm.exec ∧ c.code = code ∧ meth.sig.returnType = ret ∧ c.maxLocals = 7 ∧ s.vm.findClass R_law = some m.cls ∧ (∀ w ∈ lw_tbl, w.before #[Value.ref b] s = true) ∧ va_X b L xs s s.heap ∧ b < s.heap.size ∧ meth.locks = false ∧ (Jvm.Cond.and given_1 narrow_1).before #[Value.ref b] s = true
theorem wL_code : Cond.codeWith yL_at cL_at 5 (some FieldType.int) [(0, 10, 13, 13)] ∈ gw := mgw 842 (by decide +kernel) (by decide +kernel)
def LG (s : State) (b L : Nat) (xs : Nat → Int32) (x0 o : Nat) (Aa Ab Am : Nat → Nat) : Prop := va_X b L xs (s.setDrawn s.drawn) s.heap ∧ b < s.heap.size ∧ apX x0 Aa Ab ∧ apt 8 Am ∧ (∀ k, k < 8 → ¬ AX Aa Ab (Am k)) ∧ (∀ k, k < 18 → ¬ AS 8 Am (Aa k)) ∧ (∀ k, k < 18 → ¬ AS 8 Am (Ab k)) ∧ ¬ AS 8 Am x0 ∧ ¬ AX Aa Ab o ∧ ¬ AS 8 Am o ∧ x0 ≠ o ∧ (∀ q, AX Aa Ab q → s.heap.size ≤ q) ∧ (∀ q, AS 8 Am q → s.heap.size ≤ q) ∧ s.heap.size ≤ o ∧ s.heap.size ≤ x0
theorem rO {o : Nat} {cl : ClassId} {f : Nat → Int64} : ofR 1 (fun _ => o) (wO o cl f) := rfl
theorem Cx.one {p : Program} {s : State} {m : MethodId} {args : Array Value} {meth : Method} {c : Code} {own : String} {cc : ByteArray} {nL : Nat} {ret : Option FieldType} {D : va_G} {cy : ClassId} {tys : List (ClassId × FieldType)} (C : Cx p s m args meth c own cc nL ret D ((cy, .int) :: tys)) : Cx p s m args meth c own cc nL ret D [(cy, .int)] := by
  obtain ⟨hx, hb, hml, hown, hr, hlk, hts, hK, hN⟩ := C
  exact ⟨hx, hb, hml, hown, hr, hlk, hts, hK.sub [0] rfl, hN⟩
theorem lO {p : Program} {l : Launch} {e : Env} {R : Room} {s : State} {m : MethodId} {args : Array Value} {below : List Frame} {meth : Method} {c : Code} {H : Heap} {locs : List Loc} {cells slots : Nat} {Q : State → Prop} {own : String} {nL : Nat} {ret : Option FieldType} {cc : ByteArray} {pc o : Nat} {ls : Array Slot} {rest : List Value} {D : va_G} {cy cl : ClassId} {f : Nat → Int64} (C : Cx p s m args meth c own cc nL ret D [(cy, .int), (cl, .long)]) (hP : va_P D vwCl (wO o cl f) H) (hdg : decode cc pc = .ok (.laload, 1)) (kk : W p l e R s m args below meth c H locs cells slots Q (F0 m (pc + 1) ls (.long (f 0) :: rest))) : W p l e R s m args below meth c H locs cells slots Q (F0 m pc ls (.int 0 :: .ref o :: rest)) := va_lald C.1 C.2.1 C.2.2.2.2.2.2.2.1 hP 0 1 rfl rfl (by unfold vp_in; decide) hdg kk
theorem cwLat {R : Room} {s : State} {args : Array Value} {index : Nat} (ht : ∀ w ∈ gw, w.before args s = true) (hl : Cond.methodLink RL index yL_at ∈ gw) (hR : rmL_at.frames + 1 ≤ R.frames ∧ 8 + (5 + 11) + rmL_at.locals ≤ R.locals) : vx_CSW R s args RL index yL_at cL_at 5 (some FieldType.int) [(0, 10, 13, 13)] wyL rmL_at 1 6 4 := by
  have hG : GoodIn gw wyL := fun w hw => by
    have hm : w ∈ gw := by
      rcases List.mem_cons.mp hw with rfl | h1
      · exact wL_code
      · exact h1
    exact ⟨hm, good_of_word (List.mem_filter.mp hm).2⟩
  exact ⟨⟨rfl, rfl, hR.1, hR.2, pay_in ht hG, List.mem_cons_self⟩, ht _ wL_code, ht _ wq_129, by decide +kernel, fun sig h => by
    have h2 : (parseMethodDescriptor yL_at.desc).map (fun d => d.parameters.length) = some 4 := by decide +kernel
    rw [h] at h2
    exact (Option.some.inj h2).symm, ht _ hl, ht _ wq_841⟩
abbrev PcL (D : va_G) (cy cl : ClassId) (x0 o : Nat) (Aa Ab : Nat → Nat) (sa : Nat) (σa : Rg) (μa : Ar) (σb : Rg) (μb : Ar) (f : Nat → Int64) (av : List Value) : Array Value → State → Prop := va_Pc av (fun U => (va_P D vwCl (wS Aa cy σa μa) U.heap ∧ va_P D vwCl (wS Ab cy σb μb) U.heap ∧ va_P D vwCl (wX x0 Aa Ab) U.heap ∧ va_P D vwCl (wO o cl f) U.heap) ∧ va_K D vwCl [(cy, .int), (cl, .long)] U ∧ NW U ∧ EX (AL o Aa Ab) sa U U.heap)
theorem blindAt {D : va_G} {cy cl : ClassId} {x0 o : Nat} {Aa Ab : Nat → Nat} {sa : Nat} {σa : Rg} {μa : Ar} {σb : Rg} {μb : Ar} {f : Nat → Int64} {av : List Value} : FrameBlind (PcL D cy cl x0 o Aa Ab sa σa μa σb μb f av) := fun a U g mk hq => ⟨hq.1, hq.2.1, va_K.moved (u := U) (U := U.calling g mk a) (Vm.Alike.refl U.vm) hq.2.2.1, NW.same (u := U) (U := U.calling g mk a) rfl hq.2.2.2.1, EX.same (u := U) (U := U.calling g mk a) rfl hq.2.2.2.2⟩
theorem preLat {p : Program} {s : State} {m : MethodId} {args : Array Value} {meth : Method} {c : Code} {own : String} {cc : ByteArray} {nL : Nat} {ret : Option FieldType} {D : va_G} {cy cl : ClassId} {x0 o : Nat} {Aa Ab : Nat → Nat} {sa : Nat} {σa : Rg} {μa : Ar} {σb : Rg} {μb : Ar} {f : Nat → Int64} {av : List Value} {H : Heap} (C : Cx p s m args meth c own cc nL ret D [(cy, .int), (cl, .long)]) (hP : va_P D vwCl (wS Aa cy σa μa) H ∧ va_P D vwCl (wS Ab cy σb μb) H ∧ va_P D vwCl (wX x0 Aa Ab) H ∧ va_P D vwCl (wO o cl f) H) (hE : EX (AL o Aa Ab) sa s H) : ∀ U : State, U.heap = H → s.WarmedH U.vm → PcL D cy cl x0 o Aa Ab sa σa μa σb μb f av av.toArray U := fun U hU hW => ⟨rfl, by rw [hU]; exact hP, va_K.moved hW.alike C.2.2.2.2.2.2.2.1, C.2.2.2.2.2.2.2.2.warm hW, by rw [hU]; exact hE.warm hW⟩
theorem exAt {s : State} {sa o : Nat} {Aa Ab : Nat → Nat} {H : Heap} {locs : List Loc} (hE : EX (fun q : Nat => s.heap.size ≤ q) sa s s.heap) (hS : va_S (fun q : Nat => s.heap.size ≤ q) s.heap H locs) (h1 : ∀ q, AX Aa Ab q → s.heap.size ≤ q) (h2 : s.heap.size ≤ o) : EX (AL o Aa Ab) sa (s.setDrawn s.drawn) H := ((hE.kept hS.2.1).narrow (fun q h => h.elim (h1 q) (fun e => e ▸ h2))).same rfl
def wb_L_law_964 (xs : Nat → Int32) (L : Nat) (k23 : Rg → Ar → Rg → Ar → Rg → Ar → (Nat → Int64) → Int32 → Prop) (σa : Rg) (μa : Ar) (σb : Rg) (μb : Ar) (τ : Rg) (ν : Ar) (f : Nat → Int64) (v4 : Int32) : Prop := ∀ y964 : Int32, y964 = v4 + (7 : Int32) → (k23 σa μa σb μb τ ν f y964)
set_option maxHeartbeats 8000000 in
set_option maxRecDepth 100000 in
theorem wk_L_law_964 {p : Program} {l : Launch} {e : Env} {s : State} {m : MethodId} {below : List Frame} {meth : Method} {c : Code} {D : va_G} {cy cl : ClassId} {x0 o b L sa : Nat} {Aa Ab Am : Nat → Nat} {xs : Nat → Int32} (C : Cx p (s.setDrawn s.drawn) m #[Value.ref b] meth c RL cL_law 7 (some FieldType.boolean) D [(cy, .int), (cl, .long)]) (hlt : l.stackTraces = false) (G : LG s b L xs x0 o Aa Ab Am) (hE : EX (fun q : Nat => s.heap.size ≤ q) sa s s.heap) {c0 s0 c1 s1 : Nat} (hcR : c0 ≤ 1071 ∧ s0 ≤ 12584) (hc1 : c0 ≤ c1 ∧ s0 ≤ s1) {k23 : Rg → Ar → Rg → Ar → Rg → Ar → (Nat → Int64) → Int32 → Prop} (hk23 : ∀ {σa : Rg} {μa : Ar} {σb : Rg} {μb : Ar} {τ : Rg} {ν : Ar} {f : Nat → Int64} {v4 : Int32} {H : Heap} {locs : List Loc} {ls : Array Slot}, k23 σa μa σb μb τ ν f v4 → va_P D vwCl (wS Aa cy σa μa) H → va_P D vwCl (wS Ab cy σb μb) H → va_P D vwCl (wX x0 Aa Ab) H → va_P D vwCl (wM Am cy τ ν) H → va_P D vwCl (wO o cl f) H → va_S (fun q : Nat => s.heap.size ≤ q) s.heap H locs → lv_has ls 7 [(0, .ref b), (1, .ref x0), (2, .ref (Am 0)), (3, .ref o), (4, .int v4)] → W p l e room_1 (s.setDrawn s.drawn) m #[Value.ref b] below meth c H locs c1 s1 (lw_Z below #[Value.ref b] s) (F0 m 23 ls [])) {σa : Rg} {μa : Ar} {σb : Rg} {μb : Ar} {τ : Rg} {ν : Ar} {f : Nat → Int64} {v4 : Int32} {H : Heap} {locs : List Loc} {ls : Array Slot} (h : wb_L_law_964 xs L k23 σa μa σb μb τ ν f v4) (hPa : va_P D vwCl (wS Aa cy σa μa) H) (hPb : va_P D vwCl (wS Ab cy σb μb) H) (hPx : va_P D vwCl (wX x0 Aa Ab) H) (hPm : va_P D vwCl (wM Am cy τ ν) H) (hPo : va_P D vwCl (wO o cl f) H) (hS : va_S (fun q : Nat => s.heap.size ≤ q) s.heap H locs) (hl : lv_has ls 7 [(0, .ref b), (1, .ref x0), (2, .ref (Am 0)), (3, .ref o), (4, .int v4)]) : W p l e room_1 (s.setDrawn s.drawn) m #[Value.ref b] below meth c H locs c0 s0 (lw_Z below #[Value.ref b] s) (F0 m 964 ls []) := by
  have hx := C.1
  have hb := C.2.1
  obtain ⟨hX, hbl, hap, hapM, g1, g2, g3, g4, g5, g6, g7, g8, g9, g10, g11⟩ := id G
  have hbA : ¬ (fun q : Nat => s.heap.size ≤ q) b := Nat.not_le.mpr hbl
  obtain ⟨y964, e964⟩ : ∃ y : Int32, y = v4 + (7 : Int32) := ⟨_, rfl⟩
  have h := h y964 e964
  refine lv_iinc (v := y964) (lv' := [(4, .int y964), (0, .ref b), (1, .ref x0), (2, .ref (Am 0)), (3, .ref o)]) hx hb dL_law_964 hl (k := 4) rfl (by rw [e964]; rfl) (by decide) rfl (fun ls hl => ?_)
  refine lv_goto (tgt := 23) hx hb dL_law_967 (by decide) ?_
  refine W.widen (k := c1) (n := s1) hc1.1 hc1.2 ?_
  exact hk23 h hPa hPb hPx hPm hPo hS (lv_sub hl [1, 2, 3, 4, 0] rfl)
def wb_L_law_23 (xs : Nat → Int32) (L : Nat) (k23 : Rg → Ar → Rg → Ar → Rg → Ar → (Nat → Int64) → Int32 → Prop) (σa : Rg) (μa : Ar) (σb : Rg) (μb : Ar) (τ : Rg) (ν : Ar) (f : Nat → Int64) (v4 : Int32) : Prop := ((((Int32.ofNat L) - (7 : Int32)) < v4 → True) ∧ (¬ ((Int32.ofNat L) - (7 : Int32)) < v4 → (vp_in v4 L) ∧ ((((((xs (v4).toNatClampNeg) &&& (31 : Int32))).toInt < 0 ∨ 26 < (((xs (v4).toNatClampNeg) &&& (31 : Int32))).toInt → wb_L_law_964 xs L k23 σa μa σb μb τ ν f v4) ∧ (((xs (v4).toNatClampNeg) &&& (31 : Int32)) = 0 → (vp_in (v4 + (1 : Int32)) L) ∧ ((vp_in (v4 + (2 : Int32)) L) ∧ (wp_X5_chip σa μa σb μb (xs ((v4 + (1 : Int32))).toNatClampNeg) (xs ((v4 + (2 : Int32))).toNatClampNeg) (fun r177 σa177 μa177 σb177 μb177 => (vp_in (v4 + (1 : Int32)) L) ∧ ((vp_in (v4 + (2 : Int32)) L) ∧ (wp_X6_chip τ ν (xs ((v4 + (1 : Int32))).toNatClampNeg) (xs ((v4 + (2 : Int32))).toNatClampNeg) (fun r194 τ194 ν194 => wb_L_law_964 xs L k23 σa177 μa177 σb177 μb177 τ194 ν194 f v4))))))) ∧ (((xs (v4).toNatClampNeg) &&& (31 : Int32)) = 1 → wp_X5_on σa μa σb μb (fun r202 σa202 μa202 σb202 μb202 => wp_X6_on τ ν (fun r207 τ207 ν207 => wb_L_law_964 xs L k23 σa202 μa202 σb202 μb202 τ207 ν207 f v4))) ∧ (((xs (v4).toNatClampNeg) &&& (31 : Int32)) = 2 → wp_X5_off σa μa σb μb (fun r215 σa215 μa215 σb215 μb215 => wp_X6_off τ ν (fun r220 τ220 ν220 => wb_L_law_964 xs L k23 σa215 μa215 σb215 μb215 τ220 ν220 f v4))) ∧ (((xs (v4).toNatClampNeg) &&& (31 : Int32)) = 3 → (vp_in (v4 + (1 : Int32)) L) ∧ ((vp_in (v4 + (2 : Int32)) L) ∧ (wp_X5_power σa μa σb μb (xs ((v4 + (1 : Int32))).toNatClampNeg) (xs ((v4 + (2 : Int32))).toNatClampNeg) (fun r240 σa240 μa240 σb240 μb240 => (vp_in (v4 + (1 : Int32)) L) ∧ ((vp_in (v4 + (2 : Int32)) L) ∧ (wp_X6_power τ ν (xs ((v4 + (1 : Int32))).toNatClampNeg) (xs ((v4 + (2 : Int32))).toNatClampNeg) (fun r257 τ257 ν257 => wb_L_law_964 xs L k23 σa240 μa240 σb240 μb240 τ257 ν257 f v4))))))) ∧ (((xs (v4).toNatClampNeg) &&& (31 : Int32)) = 4 → (vp_in (v4 + (1 : Int32)) L) ∧ ((vp_in (v4 + (2 : Int32)) L) ∧ ((vp_in (v4 + (3 : Int32)) L) ∧ (wp_X5_rot σa μa σb μb (xs ((v4 + (1 : Int32))).toNatClampNeg) (xs ((v4 + (2 : Int32))).toNatClampNeg) (xs ((v4 + (3 : Int32))).toNatClampNeg) (fun r283 σa283 μa283 σb283 μb283 => (vp_in (v4 + (1 : Int32)) L) ∧ ((vp_in (v4 + (2 : Int32)) L) ∧ ((vp_in (v4 + (3 : Int32)) L) ∧ (wp_X6_rot τ ν (xs ((v4 + (1 : Int32))).toNatClampNeg) (xs ((v4 + (2 : Int32))).toNatClampNeg) (xs ((v4 + (3 : Int32))).toNatClampNeg) (fun r306 τ306 ν306 => wb_L_law_964 xs L k23 σa283 μa283 σb283 μb283 τ306 ν306 f v4))))))))) ∧ (((xs (v4).toNatClampNeg) &&& (31 : Int32)) = 5 → (vp_in (v4 + (1 : Int32)) L) ∧ ((vp_in (v4 + (2 : Int32)) L) ∧ ((vp_in (v4 + (3 : Int32)) L) ∧ (wp_X5_set σa μa σb μb (xs ((v4 + (1 : Int32))).toNatClampNeg) (xs ((v4 + (2 : Int32))).toNatClampNeg) (xs ((v4 + (3 : Int32))).toNatClampNeg) (fun r332 σa332 μa332 σb332 μb332 => (vp_in (v4 + (1 : Int32)) L) ∧ ((vp_in (v4 + (2 : Int32)) L) ∧ ((vp_in (v4 + (3 : Int32)) L) ∧ (wp_X6_set τ ν (xs ((v4 + (1 : Int32))).toNatClampNeg) (xs ((v4 + (2 : Int32))).toNatClampNeg) (xs ((v4 + (3 : Int32))).toNatClampNeg) (fun r355 τ355 ν355 => wb_L_law_964 xs L k23 σa332 μa332 σb332 μb332 τ355 ν355 f v4))))))))) ∧ (((xs (v4).toNatClampNeg) &&& (31 : Int32)) = 6 → (vp_in (v4 + (1 : Int32)) L) ∧ (wp_X5_drop σa μa σb μb (xs ((v4 + (1 : Int32))).toNatClampNeg) (fun r369 σa369 μa369 σb369 μb369 => (vp_in (v4 + (1 : Int32)) L) ∧ (wp_X6_drop τ ν (xs ((v4 + (1 : Int32))).toNatClampNeg) (fun r380 τ380 ν380 => wb_L_law_964 xs L k23 σa369 μa369 σb369 μb369 τ380 ν380 f v4))))) ∧ (((xs (v4).toNatClampNeg) &&& (31 : Int32)) = 7 → (vp_in (v4 + (1 : Int32)) L) ∧ (wp_X5_bump σa μa σb μb (xs ((v4 + (1 : Int32))).toNatClampNeg) (fun r394 σa394 μa394 σb394 μb394 => (vp_in (v4 + (1 : Int32)) L) ∧ (wp_X6_bump τ ν (xs ((v4 + (1 : Int32))).toNatClampNeg) (fun r405 τ405 ν405 => wb_L_law_964 xs L k23 σa394 μa394 σb394 μb394 τ405 ν405 f v4))))) ∧ (((xs (v4).toNatClampNeg) &&& (31 : Int32)) = 8 → wp_X5_begin σa μa σb μb (fun r413 σa413 μa413 σb413 μb413 => wp_X6_begin τ ν (fun r418 τ418 ν418 => wb_L_law_964 xs L k23 σa413 μa413 σb413 μb413 τ418 ν418 f v4))) ∧ (((xs (v4).toNatClampNeg) &&& (31 : Int32)) = 9 → wp_X5_commit σa μa σb μb (fun r426 σa426 μa426 σb426 μb426 => wp_X6_commit τ ν (fun r430 τ430 ν430 => ((r426 = r430 → wb_L_law_964 xs L k23 σa426 μa426 σb426 μb426 τ430 ν430 f v4) ∧ (¬ r426 = r430 → False))))) ∧ (((xs (v4).toNatClampNeg) &&& (31 : Int32)) = 10 → wp_X5_abort σa μa σb μb (fun r439 σa439 μa439 σb439 μb439 => wp_X6_abort τ ν (fun r444 τ444 ν444 => wb_L_law_964 xs L k23 σa439 μa439 σb439 μb439 τ444 ν444 f v4))) ∧ (((xs (v4).toNatClampNeg) &&& (31 : Int32)) = 11 → (vp_in (v4 + (1 : Int32)) L) ∧ (wp_X5_get σa μa σb μb (xs ((v4 + (1 : Int32))).toNatClampNeg) (fun r458 σa458 μa458 σb458 μb458 => (vp_in (v4 + (1 : Int32)) L) ∧ (wp_X6_get τ ν (xs ((v4 + (1 : Int32))).toNatClampNeg) (fun r469 τ469 ν469 => wb_L_law_964 xs L k23 σa458 μa458 σb458 μb458 τ469 ν469 f v4))))) ∧ (((xs (v4).toNatClampNeg) &&& (31 : Int32)) = 12 → (vp_in (v4 + (1 : Int32)) L) ∧ (wp_X5_length σa μa σb μb (xs ((v4 + (1 : Int32))).toNatClampNeg) (fun r483 σa483 μa483 σb483 μb483 => (vp_in (v4 + (1 : Int32)) L) ∧ (wp_X6_length τ ν (xs ((v4 + (1 : Int32))).toNatClampNeg) (fun r494 τ494 ν494 => wb_L_law_964 xs L k23 σa483 μa483 σb483 μb483 τ494 ν494 f v4))))) ∧ (((xs (v4).toNatClampNeg) &&& (31 : Int32)) = 13 → wp_X5_hand σa μa σb μb (fun r502 σa502 μa502 σb502 μb502 => wp_X6_hand τ ν (fun r507 τ507 ν507 => wb_L_law_964 xs L k23 σa502 μa502 σb502 μb502 τ507 ν507 f v4))) ∧ (((xs (v4).toNatClampNeg) &&& (31 : Int32)) = 14 → (vp_in (v4 + (1 : Int32)) L) ∧ ((vp_in (v4 + (2 : Int32)) L) ∧ (wp_L_at σa μa σb μb f (xs ((v4 + (1 : Int32))).toNatClampNeg) (xs ((v4 + (2 : Int32))).toNatClampNeg) (fun r528 σa528 μa528 σb528 μb528 f528 => (vp_in (v4 + (1 : Int32)) L) ∧ ((vp_in (v4 + (2 : Int32)) L) ∧ (wp_X6_at τ ν (xs ((v4 + (1 : Int32))).toNatClampNeg) (xs ((v4 + (2 : Int32))).toNatClampNeg) (fun r546 τ546 ν546 => wb_L_law_964 xs L k23 σa528 μa528 σb528 μb528 τ546 ν546 f528 v4))))))) ∧ (((xs (v4).toNatClampNeg) &&& (31 : Int32)) = 15 → (vp_in (v4 + (1 : Int32)) L) ∧ ((vp_in (v4 + (2 : Int32)) L) ∧ (wp_X5_sector σa μa σb μb (xs ((v4 + (1 : Int32))).toNatClampNeg) (xs ((v4 + (2 : Int32))).toNatClampNeg) (fun r567 σa567 μa567 σb567 μb567 => (vp_in (v4 + (1 : Int32)) L) ∧ ((vp_in (v4 + (2 : Int32)) L) ∧ (wp_X6_sector τ ν (xs ((v4 + (1 : Int32))).toNatClampNeg) (xs ((v4 + (2 : Int32))).toNatClampNeg) (fun r584 τ584 ν584 => wb_L_law_964 xs L k23 σa567 μa567 σb567 μb567 τ584 ν584 f v4))))))) ∧ (((xs (v4).toNatClampNeg) &&& (31 : Int32)) = 16 → (vp_in (v4 + (1 : Int32)) L) ∧ ((vp_in (v4 + (2 : Int32)) L) ∧ ((vp_in (v4 + (3 : Int32)) L) ∧ (wp_X5_entry σa μa σb μb (xs ((v4 + (1 : Int32))).toNatClampNeg) (xs ((v4 + (2 : Int32))).toNatClampNeg) (xs ((v4 + (3 : Int32))).toNatClampNeg) (fun r610 σa610 μa610 σb610 μb610 => (vp_in (v4 + (1 : Int32)) L) ∧ ((vp_in (v4 + (2 : Int32)) L) ∧ ((vp_in (v4 + (3 : Int32)) L) ∧ (wp_X6_entry τ ν (xs ((v4 + (1 : Int32))).toNatClampNeg) (xs ((v4 + (2 : Int32))).toNatClampNeg) (xs ((v4 + (3 : Int32))).toNatClampNeg) (fun r633 τ633 ν633 => wb_L_law_964 xs L k23 σa610 μa610 σb610 μb610 τ633 ν633 f v4))))))))) ∧ (((xs (v4).toNatClampNeg) &&& (31 : Int32)) = 17 → (vp_in (v4 + (1 : Int32)) L) ∧ ((vp_in (v4 + (2 : Int32)) L) ∧ (wp_X5_space σa μa σb μb (xs ((v4 + (1 : Int32))).toNatClampNeg) (xs ((v4 + (2 : Int32))).toNatClampNeg) (fun r653 σa653 μa653 σb653 μb653 => (vp_in (v4 + (1 : Int32)) L) ∧ ((vp_in (v4 + (2 : Int32)) L) ∧ (wp_X6_space τ ν (xs ((v4 + (1 : Int32))).toNatClampNeg) (xs ((v4 + (2 : Int32))).toNatClampNeg) (fun r670 τ670 ν670 => wb_L_law_964 xs L k23 σa653 μa653 σb653 μb653 τ670 ν670 f v4))))))) ∧ (((xs (v4).toNatClampNeg) &&& (31 : Int32)) = 18 → (vp_in (v4 + (1 : Int32)) L) ∧ (wp_X5_until σa μa σb μb (xs ((v4 + (1 : Int32))).toNatClampNeg) (fun r684 σa684 μa684 σb684 μb684 => (vp_in (v4 + (1 : Int32)) L) ∧ (wp_X6_until τ ν (xs ((v4 + (1 : Int32))).toNatClampNeg) (fun r695 τ695 ν695 => wb_L_law_964 xs L k23 σa684 μa684 σb684 μb684 τ695 ν695 f v4))))) ∧ (((xs (v4).toNatClampNeg) &&& (31 : Int32)) = 19 → wp_X5_after σa μa σb μb (fun r703 σa703 μa703 σb703 μb703 => wp_X6_after τ ν (fun r708 τ708 ν708 => wb_L_law_964 xs L k23 σa703 μa703 σb703 μb703 τ708 ν708 f v4))) ∧ (((xs (v4).toNatClampNeg) &&& (31 : Int32)) = 20 → (vp_in (v4 + (1 : Int32)) L) ∧ (wp_X5_costs σa μa σb μb (xs ((v4 + (1 : Int32))).toNatClampNeg) (fun r722 σa722 μa722 σb722 μb722 => (vp_in (v4 + (1 : Int32)) L) ∧ (wp_X6_costs τ ν (xs ((v4 + (1 : Int32))).toNatClampNeg) (fun r733 τ733 ν733 => wb_L_law_964 xs L k23 σa722 μa722 σb722 μb722 τ733 ν733 f v4))))) ∧ (((xs (v4).toNatClampNeg) &&& (31 : Int32)) = 21 → (vp_in (v4 + (1 : Int32)) L) ∧ ((vp_in (v4 + (2 : Int32)) L) ∧ ((vp_in (v4 + (3 : Int32)) L) ∧ ((vp_in (v4 + (4 : Int32)) L) ∧ ((vp_in (v4 + (5 : Int32)) L) ∧ ((vp_in (v4 + (6 : Int32)) L) ∧ (wp_X5_torn σa μa σb μb (xs ((v4 + (1 : Int32))).toNatClampNeg) (xs ((v4 + (2 : Int32))).toNatClampNeg) (xs ((v4 + (3 : Int32))).toNatClampNeg) (xs ((v4 + (4 : Int32))).toNatClampNeg) (xs ((v4 + (5 : Int32))).toNatClampNeg) (xs ((v4 + (6 : Int32))).toNatClampNeg) (fun r778 σa778 μa778 σb778 μb778 => (vp_in (v4 + (1 : Int32)) L) ∧ ((vp_in (v4 + (2 : Int32)) L) ∧ ((vp_in (v4 + (3 : Int32)) L) ∧ ((vp_in (v4 + (4 : Int32)) L) ∧ ((vp_in (v4 + (5 : Int32)) L) ∧ ((vp_in (v4 + (6 : Int32)) L) ∧ (wp_X6_torn τ ν (xs ((v4 + (1 : Int32))).toNatClampNeg) (xs ((v4 + (2 : Int32))).toNatClampNeg) (xs ((v4 + (3 : Int32))).toNatClampNeg) (xs ((v4 + (4 : Int32))).toNatClampNeg) (xs ((v4 + (5 : Int32))).toNatClampNeg) (xs ((v4 + (6 : Int32))).toNatClampNeg) (fun r820 τ820 ν820 => wb_L_law_964 xs L k23 σa778 μa778 σb778 μb778 τ820 ν820 f v4))))))))))))))) ∧ (((xs (v4).toNatClampNeg) &&& (31 : Int32)) = 22 → (vp_in (v4 + (1 : Int32)) L) ∧ ((vp_in (v4 + (2 : Int32)) L) ∧ (wp_X5_history σa μa σb μb (xs ((v4 + (1 : Int32))).toNatClampNeg) (xs ((v4 + (2 : Int32))).toNatClampNeg) (fun r840 σa840 μa840 σb840 μb840 => (vp_in (v4 + (1 : Int32)) L) ∧ ((vp_in (v4 + (2 : Int32)) L) ∧ (wp_X6_history τ ν (xs ((v4 + (1 : Int32))).toNatClampNeg) (xs ((v4 + (2 : Int32))).toNatClampNeg) (fun r857 τ857 ν857 => wb_L_law_964 xs L k23 σa840 μa840 σb840 μb840 τ857 ν857 f v4))))))) ∧ (((xs (v4).toNatClampNeg) &&& (31 : Int32)) = 23 → (vp_in (v4 + (1 : Int32)) L) ∧ ((vp_in (v4 + (2 : Int32)) L) ∧ (wp_X5_wears σa μa σb μb (xs ((v4 + (1 : Int32))).toNatClampNeg) (xs ((v4 + (2 : Int32))).toNatClampNeg) (fun r877 σa877 μa877 σb877 μb877 => (vp_in (v4 + (1 : Int32)) L) ∧ ((vp_in (v4 + (2 : Int32)) L) ∧ (wp_X6_wears τ ν (xs ((v4 + (1 : Int32))).toNatClampNeg) (xs ((v4 + (2 : Int32))).toNatClampNeg) (fun r894 τ894 ν894 => wb_L_law_964 xs L k23 σa877 μa877 σb877 μb877 τ894 ν894 f v4))))))) ∧ (((xs (v4).toNatClampNeg) &&& (31 : Int32)) = 24 → (vp_in (v4 + (1 : Int32)) L) ∧ (wp_X5_wear σa μa σb μb (xs ((v4 + (1 : Int32))).toNatClampNeg) (fun r908 σa908 μa908 σb908 μb908 => (vp_in (v4 + (1 : Int32)) L) ∧ (wp_X6_wear τ ν (xs ((v4 + (1 : Int32))).toNatClampNeg) (fun r919 τ919 ν919 => wb_L_law_964 xs L k23 σa908 μa908 σb908 μb908 τ919 ν919 f v4))))) ∧ (((xs (v4).toNatClampNeg) &&& (31 : Int32)) = 25 → wp_X5_tags σa μa σb μb (fun r927 σa927 μa927 σb927 μb927 => wp_X6_tags τ ν (fun r932 τ932 ν932 => wb_L_law_964 xs L k23 σa927 μa927 σb927 μb927 τ932 ν932 f v4))) ∧ (((xs (v4).toNatClampNeg) &&& (31 : Int32)) = 26 → (vp_in (v4 + (1 : Int32)) L) ∧ (wp_X5_count σa μa σb μb (xs ((v4 + (1 : Int32))).toNatClampNeg) (fun r946 σa946 μa946 σb946 μb946 => (vp_in (v4 + (1 : Int32)) L) ∧ (wp_X6_count τ ν (xs ((v4 + (1 : Int32))).toNatClampNeg) (fun r957 τ957 ν957 => wb_L_law_964 xs L k23 σa946 μa946 σb946 μb946 τ957 ν957 f v4)))))))))
set_option maxHeartbeats 8000000 in
set_option maxRecDepth 100000 in
theorem wk_L_law_23 {p : Program} {l : Launch} {e : Env} {s : State} {m : MethodId} {below : List Frame} {meth : Method} {c : Code} {D : va_G} {cy cl : ClassId} {x0 o b L sa : Nat} {Aa Ab Am : Nat → Nat} {xs : Nat → Int32} (C : Cx p (s.setDrawn s.drawn) m #[Value.ref b] meth c RL cL_law 7 (some FieldType.boolean) D [(cy, .int), (cl, .long)]) (hlt : l.stackTraces = false) (G : LG s b L xs x0 o Aa Ab Am) (hE : EX (fun q : Nat => s.heap.size ≤ q) sa s s.heap) {c0 s0 c1 s1 : Nat} (hcR : c0 ≤ 1071 ∧ s0 ≤ 12584) (hc1 : c0 ≤ c1 ∧ s0 ≤ s1) (hc2 : c0 + 1 ≤ c1 ∧ s0 + 6 ≤ s1 ∧ c0 + 1 ≤ 1071 ∧ s0 + 6 ≤ 12584) {k23 : Rg → Ar → Rg → Ar → Rg → Ar → (Nat → Int64) → Int32 → Prop} (hk23 : ∀ {σa : Rg} {μa : Ar} {σb : Rg} {μb : Ar} {τ : Rg} {ν : Ar} {f : Nat → Int64} {v4 : Int32} {H : Heap} {locs : List Loc} {ls : Array Slot}, k23 σa μa σb μb τ ν f v4 → va_P D vwCl (wS Aa cy σa μa) H → va_P D vwCl (wS Ab cy σb μb) H → va_P D vwCl (wX x0 Aa Ab) H → va_P D vwCl (wM Am cy τ ν) H → va_P D vwCl (wO o cl f) H → va_S (fun q : Nat => s.heap.size ≤ q) s.heap H locs → lv_has ls 7 [(0, .ref b), (1, .ref x0), (2, .ref (Am 0)), (3, .ref o), (4, .int v4)] → W p l e room_1 (s.setDrawn s.drawn) m #[Value.ref b] below meth c H locs c1 s1 (lw_Z below #[Value.ref b] s) (F0 m 23 ls [])) {σa : Rg} {μa : Ar} {σb : Rg} {μb : Ar} {τ : Rg} {ν : Ar} {f : Nat → Int64} {v4 : Int32} {H : Heap} {locs : List Loc} {ls : Array Slot} (h : wb_L_law_23 xs L k23 σa μa σb μb τ ν f v4) (hPa : va_P D vwCl (wS Aa cy σa μa) H) (hPb : va_P D vwCl (wS Ab cy σb μb) H) (hPx : va_P D vwCl (wX x0 Aa Ab) H) (hPm : va_P D vwCl (wM Am cy τ ν) H) (hPo : va_P D vwCl (wO o cl f) H) (hS : va_S (fun q : Nat => s.heap.size ≤ q) s.heap H locs) (hl : lv_has ls 7 [(0, .ref b), (1, .ref x0), (2, .ref (Am 0)), (3, .ref o), (4, .int v4)]) : W p l e room_1 (s.setDrawn s.drawn) m #[Value.ref b] below meth c H locs c0 s0 (lw_Z below #[Value.ref b] s) (F0 m 23 ls []) := by
  have hx := C.1
  have hb := C.2.1
  obtain ⟨hX, hbl, hap, hapM, g1, g2, g3, g4, g5, g6, g7, g8, g9, g10, g11⟩ := id G
  have hbA : ¬ (fun q : Nat => s.heap.size ≤ q) b := Nat.not_le.mpr hbl
  refine lv_iload hx hb dL_law_23 (lv_at hl 4 rfl) ?_
  refine lv_aload_n hx hb dL_law_25 rfl (lv_at hl 0 rfl) ?_
  refine va_slen hx hb hX hbl hbA hS dL_law_26 ?_
  refine lv_bipush (v := 7) hx hb dL_law_27 (by decide) ?_
  refine lv_isub hx hb dL_law_29 ?_
  refine lv_icmp_gt (tgt := 970) hx hb dL_law_30 (by decide) (fun hc => ?_) (fun hc => ?_)
  · have h := h.1 hc
    refine lv_iconst (v := 1) hx hb dL_law_970 (by decide) ?_
    refine va_forget (fun q hq => hS.2.2 q hq) ?_
    refine W.widen (k := 1071) (n := 12584) hcR.1 hcR.2 ?_
    exact lw_ret (Drawn.sameBut.refl s.drawn lw_cs) hx hb C.2.2.2.2.1 C.2.2.2.2.2.1 dL_law_971
  · have h := h.2 hc
    refine lv_aload_n hx hb dL_law_33 rfl (lv_at hl 0 rfl) ?_
    refine lv_iload hx hb dL_law_34 (lv_at hl 4 rfl) ?_
    obtain ⟨hc, h⟩ := h
    refine va_sld hx hb hX hbl hbA hS hc dL_law_36 ?_
    refine lv_bipush (v := 31) hx hb dL_law_37 (by decide) ?_
    refine lv_iand hx hb dL_law_39 ?_
    by_cases hc : (((xs (v4).toNatClampNeg) &&& (31 : Int32))).toInt < 0 ∨ 26 < (((xs (v4).toNatClampNeg) &&& (31 : Int32))).toInt
    · have h := h.1 hc
      refine lv_tableOut (tgt := 964) hx hb dL_law_40 hc (by decide) ?_
      exact wk_L_law_964 C hlt G hE hcR hc1 hk23 h hPa hPb hPx hPm hPo hS (lv_sub hl [0, 1, 2, 3, 4] rfl)
    · have hr : (((xs (v4).toNatClampNeg) &&& (31 : Int32))).toInt = 0 ∨ (((xs (v4).toNatClampNeg) &&& (31 : Int32))).toInt = 1 ∨ (((xs (v4).toNatClampNeg) &&& (31 : Int32))).toInt = 2 ∨ (((xs (v4).toNatClampNeg) &&& (31 : Int32))).toInt = 3 ∨ (((xs (v4).toNatClampNeg) &&& (31 : Int32))).toInt = 4 ∨ (((xs (v4).toNatClampNeg) &&& (31 : Int32))).toInt = 5 ∨ (((xs (v4).toNatClampNeg) &&& (31 : Int32))).toInt = 6 ∨ (((xs (v4).toNatClampNeg) &&& (31 : Int32))).toInt = 7 ∨ (((xs (v4).toNatClampNeg) &&& (31 : Int32))).toInt = 8 ∨ (((xs (v4).toNatClampNeg) &&& (31 : Int32))).toInt = 9 ∨ (((xs (v4).toNatClampNeg) &&& (31 : Int32))).toInt = 10 ∨ (((xs (v4).toNatClampNeg) &&& (31 : Int32))).toInt = 11 ∨ (((xs (v4).toNatClampNeg) &&& (31 : Int32))).toInt = 12 ∨ (((xs (v4).toNatClampNeg) &&& (31 : Int32))).toInt = 13 ∨ (((xs (v4).toNatClampNeg) &&& (31 : Int32))).toInt = 14 ∨ (((xs (v4).toNatClampNeg) &&& (31 : Int32))).toInt = 15 ∨ (((xs (v4).toNatClampNeg) &&& (31 : Int32))).toInt = 16 ∨ (((xs (v4).toNatClampNeg) &&& (31 : Int32))).toInt = 17 ∨ (((xs (v4).toNatClampNeg) &&& (31 : Int32))).toInt = 18 ∨ (((xs (v4).toNatClampNeg) &&& (31 : Int32))).toInt = 19 ∨ (((xs (v4).toNatClampNeg) &&& (31 : Int32))).toInt = 20 ∨ (((xs (v4).toNatClampNeg) &&& (31 : Int32))).toInt = 21 ∨ (((xs (v4).toNatClampNeg) &&& (31 : Int32))).toInt = 22 ∨ (((xs (v4).toNatClampNeg) &&& (31 : Int32))).toInt = 23 ∨ (((xs (v4).toNatClampNeg) &&& (31 : Int32))).toInt = 24 ∨ (((xs (v4).toNatClampNeg) &&& (31 : Int32))).toInt = 25 ∨ (((xs (v4).toNatClampNeg) &&& (31 : Int32))).toInt = 26 := by omega
      rcases hr with hr | hr | hr | hr | hr | hr | hr | hr | hr | hr | hr | hr | hr | hr | hr | hr | hr | hr | hr | hr | hr | hr | hr | hr | hr | hr | hr
      · have h := h.2.1 (Int32.toInt_inj.mp (by rw [hr]; rfl))
        refine lv_tableIn (off := 124) (tgt := 164) hx hb dL_law_40 (by omega) (by omega) (by rw [hr]; rfl) (by decide) ?_
        refine lv_aload_n hx hb dL_law_164 rfl (lv_at hl 1 rfl) ?_
        refine lv_aload_n hx hb dL_law_165 rfl (lv_at hl 0 rfl) ?_
        refine lv_iload hx hb dL_law_166 (lv_at hl 4 rfl) ?_
        refine lv_iconst (v := 1) hx hb dL_law_168 (by decide) ?_
        refine lv_iadd hx hb dL_law_169 ?_
        obtain ⟨hc, h⟩ := h
        refine va_sld hx hb hX hbl hbA hS hc dL_law_170 ?_
        refine lv_aload_n hx hb dL_law_171 rfl (lv_at hl 0 rfl) ?_
        refine lv_iload hx hb dL_law_172 (lv_at hl 4 rfl) ?_
        refine lv_iconst (v := 2) hx hb dL_law_174 (by decide) ?_
        refine lv_iadd hx hb dL_law_175 ?_
        obtain ⟨hc, h⟩ := h
        refine va_sld hx hb hX hbl hbA hS hc dL_law_176 ?_
        refine kXi (rnV C.one (ct_X5_chip l D cy x0 Aa Ab hap h) yv_X5_chip wq_343 ⟨rfl, rfl⟩ ⟨Nat.le_of_ble_eq_true rfl, Nat.le_of_ble_eq_true rfl⟩ ⟨hcR.1, hcR.2⟩ (vX C.one hPx) ⟨hPa, hPb, hPx⟩ hl.1 rfl rfl (Nat.le_of_ble_eq_true rfl) dL_law_177) hS g8 (fun r177 σa177 μa177 σb177 μb177 H locs h hPa hPb hPx hk hS => ?_)
        have hPm := keepW rM g1 hPm hk
        have hPo := keepW rO (fun _ _ => g5) hPo hk
        refine lv_pop hx hb dL_law_180 rfl ?_
        refine lv_aload_n hx hb dL_law_181 rfl (lv_at hl 2 rfl) ?_
        refine lv_aload_n hx hb dL_law_182 rfl (lv_at hl 0 rfl) ?_
        refine lv_iload hx hb dL_law_183 (lv_at hl 4 rfl) ?_
        refine lv_iconst (v := 1) hx hb dL_law_185 (by decide) ?_
        refine lv_iadd hx hb dL_law_186 ?_
        obtain ⟨hc, h⟩ := h
        refine va_sld hx hb hX hbl hbA hS hc dL_law_187 ?_
        refine lv_aload_n hx hb dL_law_188 rfl (lv_at hl 0 rfl) ?_
        refine lv_iload hx hb dL_law_189 (lv_at hl 4 rfl) ?_
        refine lv_iconst (v := 2) hx hb dL_law_191 (by decide) ?_
        refine lv_iadd hx hb dL_law_192 ?_
        obtain ⟨hc, h⟩ := h
        refine va_sld hx hb hX hbl hbA hS hc dL_law_193 ?_
        refine kWi (rnV C.one (ct_X6_chip l D cy Am hapM h) yv_X6_chip wq_970 ⟨rfl, rfl⟩ ⟨Nat.le_of_ble_eq_true rfl, Nat.le_of_ble_eq_true rfl⟩ ⟨hcR.1, hcR.2⟩ (vM_model C.one hPm) hPm hl.1 rfl rfl (Nat.le_of_ble_eq_true rfl) dL_law_194) hS g9 (fun r194 τ194 ν194 H locs h hPm hk hS => ?_)
        have hPa := keepW rS g2 hPa hk
        have hPb := keepW rS g3 hPb hk
        have hPx := keepW (rX (x0 := x0) (Aa := Aa) (Ab := Ab)) (fun _ _ => g4) hPx hk
        have hPo := keepW rO (fun _ _ => g6) hPo hk
        refine lv_pop hx hb dL_law_197 rfl ?_
        refine lv_goto (tgt := 964) hx hb dL_law_198 (by decide) ?_
        exact wk_L_law_964 C hlt G hE hcR hc1 hk23 h hPa hPb hPx hPm hPo hS (lv_sub hl [0, 1, 2, 3, 4] rfl)
      · have h := h.2.2.1 (Int32.toInt_inj.mp (by rw [hr]; rfl))
        refine lv_tableIn (off := 161) (tgt := 201) hx hb dL_law_40 (by omega) (by omega) (by rw [hr]; rfl) (by decide) ?_
        refine lv_aload_n hx hb dL_law_201 rfl (lv_at hl 1 rfl) ?_
        refine kXi (rnV C.one (ct_X5_on l D cy x0 Aa Ab hap h) yv_X5_on wq_362 ⟨rfl, rfl⟩ ⟨Nat.le_of_ble_eq_true rfl, Nat.le_of_ble_eq_true rfl⟩ ⟨hcR.1, hcR.2⟩ (vX C.one hPx) ⟨hPa, hPb, hPx⟩ hl.1 rfl rfl (Nat.le_of_ble_eq_true rfl) dL_law_202) hS g8 (fun r202 σa202 μa202 σb202 μb202 H locs h hPa hPb hPx hk hS => ?_)
        have hPm := keepW rM g1 hPm hk
        have hPo := keepW rO (fun _ _ => g5) hPo hk
        refine lv_pop hx hb dL_law_205 rfl ?_
        refine lv_aload_n hx hb dL_law_206 rfl (lv_at hl 2 rfl) ?_
        refine kWi (rnV C.one (ct_X6_on l D cy Am hapM h) yv_X6_on wq_977 ⟨rfl, rfl⟩ ⟨Nat.le_of_ble_eq_true rfl, Nat.le_of_ble_eq_true rfl⟩ ⟨hcR.1, hcR.2⟩ (vM_model C.one hPm) hPm hl.1 rfl rfl (Nat.le_of_ble_eq_true rfl) dL_law_207) hS g9 (fun r207 τ207 ν207 H locs h hPm hk hS => ?_)
        have hPa := keepW rS g2 hPa hk
        have hPb := keepW rS g3 hPb hk
        have hPx := keepW (rX (x0 := x0) (Aa := Aa) (Ab := Ab)) (fun _ _ => g4) hPx hk
        have hPo := keepW rO (fun _ _ => g6) hPo hk
        refine lv_pop hx hb dL_law_210 rfl ?_
        refine lv_goto (tgt := 964) hx hb dL_law_211 (by decide) ?_
        exact wk_L_law_964 C hlt G hE hcR hc1 hk23 h hPa hPb hPx hPm hPo hS (lv_sub hl [0, 1, 2, 3, 4] rfl)
      · have h := h.2.2.2.1 (Int32.toInt_inj.mp (by rw [hr]; rfl))
        refine lv_tableIn (off := 174) (tgt := 214) hx hb dL_law_40 (by omega) (by omega) (by rw [hr]; rfl) (by decide) ?_
        refine lv_aload_n hx hb dL_law_214 rfl (lv_at hl 1 rfl) ?_
        refine kXi (rnV C.one (ct_X5_off l D cy x0 Aa Ab hap h) yv_X5_off wq_513 ⟨rfl, rfl⟩ ⟨Nat.le_of_ble_eq_true rfl, Nat.le_of_ble_eq_true rfl⟩ ⟨hcR.1, hcR.2⟩ (vX C.one hPx) ⟨hPa, hPb, hPx⟩ hl.1 rfl rfl (Nat.le_of_ble_eq_true rfl) dL_law_215) hS g8 (fun r215 σa215 μa215 σb215 μb215 H locs h hPa hPb hPx hk hS => ?_)
        have hPm := keepW rM g1 hPm hk
        have hPo := keepW rO (fun _ _ => g5) hPo hk
        refine lv_pop hx hb dL_law_218 rfl ?_
        refine lv_aload_n hx hb dL_law_219 rfl (lv_at hl 2 rfl) ?_
        refine kWi (rnV C.one (ct_X6_off l D cy Am hapM h) yv_X6_off wq_1072 ⟨rfl, rfl⟩ ⟨Nat.le_of_ble_eq_true rfl, Nat.le_of_ble_eq_true rfl⟩ ⟨hcR.1, hcR.2⟩ (vM_model C.one hPm) hPm hl.1 rfl rfl (Nat.le_of_ble_eq_true rfl) dL_law_220) hS g9 (fun r220 τ220 ν220 H locs h hPm hk hS => ?_)
        have hPa := keepW rS g2 hPa hk
        have hPb := keepW rS g3 hPb hk
        have hPx := keepW (rX (x0 := x0) (Aa := Aa) (Ab := Ab)) (fun _ _ => g4) hPx hk
        have hPo := keepW rO (fun _ _ => g6) hPo hk
        refine lv_pop hx hb dL_law_223 rfl ?_
        refine lv_goto (tgt := 964) hx hb dL_law_224 (by decide) ?_
        exact wk_L_law_964 C hlt G hE hcR hc1 hk23 h hPa hPb hPx hPm hPo hS (lv_sub hl [0, 1, 2, 3, 4] rfl)
      · have h := h.2.2.2.2.1 (Int32.toInt_inj.mp (by rw [hr]; rfl))
        refine lv_tableIn (off := 187) (tgt := 227) hx hb dL_law_40 (by omega) (by omega) (by rw [hr]; rfl) (by decide) ?_
        refine lv_aload_n hx hb dL_law_227 rfl (lv_at hl 1 rfl) ?_
        refine lv_aload_n hx hb dL_law_228 rfl (lv_at hl 0 rfl) ?_
        refine lv_iload hx hb dL_law_229 (lv_at hl 4 rfl) ?_
        refine lv_iconst (v := 1) hx hb dL_law_231 (by decide) ?_
        refine lv_iadd hx hb dL_law_232 ?_
        obtain ⟨hc, h⟩ := h
        refine va_sld hx hb hX hbl hbA hS hc dL_law_233 ?_
        refine lv_aload_n hx hb dL_law_234 rfl (lv_at hl 0 rfl) ?_
        refine lv_iload hx hb dL_law_235 (lv_at hl 4 rfl) ?_
        refine lv_iconst (v := 2) hx hb dL_law_237 (by decide) ?_
        refine lv_iadd hx hb dL_law_238 ?_
        obtain ⟨hc, h⟩ := h
        refine va_sld hx hb hX hbl hbA hS hc dL_law_239 ?_
        refine kXi (rnV C.one (ct_X5_power l D cy x0 Aa Ab hap h) yv_X5_power wq_518 ⟨rfl, rfl⟩ ⟨Nat.le_of_ble_eq_true rfl, Nat.le_of_ble_eq_true rfl⟩ ⟨hcR.1, hcR.2⟩ (vX C.one hPx) ⟨hPa, hPb, hPx⟩ hl.1 rfl rfl (Nat.le_of_ble_eq_true rfl) dL_law_240) hS g8 (fun r240 σa240 μa240 σb240 μb240 H locs h hPa hPb hPx hk hS => ?_)
        have hPm := keepW rM g1 hPm hk
        have hPo := keepW rO (fun _ _ => g5) hPo hk
        refine lv_pop hx hb dL_law_243 rfl ?_
        refine lv_aload_n hx hb dL_law_244 rfl (lv_at hl 2 rfl) ?_
        refine lv_aload_n hx hb dL_law_245 rfl (lv_at hl 0 rfl) ?_
        refine lv_iload hx hb dL_law_246 (lv_at hl 4 rfl) ?_
        refine lv_iconst (v := 1) hx hb dL_law_248 (by decide) ?_
        refine lv_iadd hx hb dL_law_249 ?_
        obtain ⟨hc, h⟩ := h
        refine va_sld hx hb hX hbl hbA hS hc dL_law_250 ?_
        refine lv_aload_n hx hb dL_law_251 rfl (lv_at hl 0 rfl) ?_
        refine lv_iload hx hb dL_law_252 (lv_at hl 4 rfl) ?_
        refine lv_iconst (v := 2) hx hb dL_law_254 (by decide) ?_
        refine lv_iadd hx hb dL_law_255 ?_
        obtain ⟨hc, h⟩ := h
        refine va_sld hx hb hX hbl hbA hS hc dL_law_256 ?_
        refine kWi (rnV C.one (ct_X6_power l D cy Am hapM h) yv_X6_power wq_1076 ⟨rfl, rfl⟩ ⟨Nat.le_of_ble_eq_true rfl, Nat.le_of_ble_eq_true rfl⟩ ⟨hcR.1, hcR.2⟩ (vM_model C.one hPm) hPm hl.1 rfl rfl (Nat.le_of_ble_eq_true rfl) dL_law_257) hS g9 (fun r257 τ257 ν257 H locs h hPm hk hS => ?_)
        have hPa := keepW rS g2 hPa hk
        have hPb := keepW rS g3 hPb hk
        have hPx := keepW (rX (x0 := x0) (Aa := Aa) (Ab := Ab)) (fun _ _ => g4) hPx hk
        have hPo := keepW rO (fun _ _ => g6) hPo hk
        refine lv_pop hx hb dL_law_260 rfl ?_
        refine lv_goto (tgt := 964) hx hb dL_law_261 (by decide) ?_
        exact wk_L_law_964 C hlt G hE hcR hc1 hk23 h hPa hPb hPx hPm hPo hS (lv_sub hl [0, 1, 2, 3, 4] rfl)
      · have h := h.2.2.2.2.2.1 (Int32.toInt_inj.mp (by rw [hr]; rfl))
        refine lv_tableIn (off := 224) (tgt := 264) hx hb dL_law_40 (by omega) (by omega) (by rw [hr]; rfl) (by decide) ?_
        refine lv_aload_n hx hb dL_law_264 rfl (lv_at hl 1 rfl) ?_
        refine lv_aload_n hx hb dL_law_265 rfl (lv_at hl 0 rfl) ?_
        refine lv_iload hx hb dL_law_266 (lv_at hl 4 rfl) ?_
        refine lv_iconst (v := 1) hx hb dL_law_268 (by decide) ?_
        refine lv_iadd hx hb dL_law_269 ?_
        obtain ⟨hc, h⟩ := h
        refine va_sld hx hb hX hbl hbA hS hc dL_law_270 ?_
        refine lv_aload_n hx hb dL_law_271 rfl (lv_at hl 0 rfl) ?_
        refine lv_iload hx hb dL_law_272 (lv_at hl 4 rfl) ?_
        refine lv_iconst (v := 2) hx hb dL_law_274 (by decide) ?_
        refine lv_iadd hx hb dL_law_275 ?_
        obtain ⟨hc, h⟩ := h
        refine va_sld hx hb hX hbl hbA hS hc dL_law_276 ?_
        refine lv_aload_n hx hb dL_law_277 rfl (lv_at hl 0 rfl) ?_
        refine lv_iload hx hb dL_law_278 (lv_at hl 4 rfl) ?_
        refine lv_iconst (v := 3) hx hb dL_law_280 (by decide) ?_
        refine lv_iadd hx hb dL_law_281 ?_
        obtain ⟨hc, h⟩ := h
        refine va_sld hx hb hX hbl hbA hS hc dL_law_282 ?_
        refine kXi (rnV C.one (ct_X5_rot l D cy x0 Aa Ab hap h) yv_X5_rot wq_526 ⟨rfl, rfl⟩ ⟨Nat.le_of_ble_eq_true rfl, Nat.le_of_ble_eq_true rfl⟩ ⟨hcR.1, hcR.2⟩ (vX C.one hPx) ⟨hPa, hPb, hPx⟩ hl.1 rfl rfl (Nat.le_of_ble_eq_true rfl) dL_law_283) hS g8 (fun r283 σa283 μa283 σb283 μb283 H locs h hPa hPb hPx hk hS => ?_)
        have hPm := keepW rM g1 hPm hk
        have hPo := keepW rO (fun _ _ => g5) hPo hk
        refine lv_pop hx hb dL_law_286 rfl ?_
        refine lv_aload_n hx hb dL_law_287 rfl (lv_at hl 2 rfl) ?_
        refine lv_aload_n hx hb dL_law_288 rfl (lv_at hl 0 rfl) ?_
        refine lv_iload hx hb dL_law_289 (lv_at hl 4 rfl) ?_
        refine lv_iconst (v := 1) hx hb dL_law_291 (by decide) ?_
        refine lv_iadd hx hb dL_law_292 ?_
        obtain ⟨hc, h⟩ := h
        refine va_sld hx hb hX hbl hbA hS hc dL_law_293 ?_
        refine lv_aload_n hx hb dL_law_294 rfl (lv_at hl 0 rfl) ?_
        refine lv_iload hx hb dL_law_295 (lv_at hl 4 rfl) ?_
        refine lv_iconst (v := 2) hx hb dL_law_297 (by decide) ?_
        refine lv_iadd hx hb dL_law_298 ?_
        obtain ⟨hc, h⟩ := h
        refine va_sld hx hb hX hbl hbA hS hc dL_law_299 ?_
        refine lv_aload_n hx hb dL_law_300 rfl (lv_at hl 0 rfl) ?_
        refine lv_iload hx hb dL_law_301 (lv_at hl 4 rfl) ?_
        refine lv_iconst (v := 3) hx hb dL_law_303 (by decide) ?_
        refine lv_iadd hx hb dL_law_304 ?_
        obtain ⟨hc, h⟩ := h
        refine va_sld hx hb hX hbl hbA hS hc dL_law_305 ?_
        refine kWi (rnV C.one (ct_X6_rot l D cy Am hapM h) yv_X6_rot wq_1080 ⟨rfl, rfl⟩ ⟨Nat.le_of_ble_eq_true rfl, Nat.le_of_ble_eq_true rfl⟩ ⟨hcR.1, hcR.2⟩ (vM_model C.one hPm) hPm hl.1 rfl rfl (Nat.le_of_ble_eq_true rfl) dL_law_306) hS g9 (fun r306 τ306 ν306 H locs h hPm hk hS => ?_)
        have hPa := keepW rS g2 hPa hk
        have hPb := keepW rS g3 hPb hk
        have hPx := keepW (rX (x0 := x0) (Aa := Aa) (Ab := Ab)) (fun _ _ => g4) hPx hk
        have hPo := keepW rO (fun _ _ => g6) hPo hk
        refine lv_pop hx hb dL_law_309 rfl ?_
        refine lv_goto (tgt := 964) hx hb dL_law_310 (by decide) ?_
        exact wk_L_law_964 C hlt G hE hcR hc1 hk23 h hPa hPb hPx hPm hPo hS (lv_sub hl [0, 1, 2, 3, 4] rfl)
      · have h := h.2.2.2.2.2.2.1 (Int32.toInt_inj.mp (by rw [hr]; rfl))
        refine lv_tableIn (off := 273) (tgt := 313) hx hb dL_law_40 (by omega) (by omega) (by rw [hr]; rfl) (by decide) ?_
        refine lv_aload_n hx hb dL_law_313 rfl (lv_at hl 1 rfl) ?_
        refine lv_aload_n hx hb dL_law_314 rfl (lv_at hl 0 rfl) ?_
        refine lv_iload hx hb dL_law_315 (lv_at hl 4 rfl) ?_
        refine lv_iconst (v := 1) hx hb dL_law_317 (by decide) ?_
        refine lv_iadd hx hb dL_law_318 ?_
        obtain ⟨hc, h⟩ := h
        refine va_sld hx hb hX hbl hbA hS hc dL_law_319 ?_
        refine lv_aload_n hx hb dL_law_320 rfl (lv_at hl 0 rfl) ?_
        refine lv_iload hx hb dL_law_321 (lv_at hl 4 rfl) ?_
        refine lv_iconst (v := 2) hx hb dL_law_323 (by decide) ?_
        refine lv_iadd hx hb dL_law_324 ?_
        obtain ⟨hc, h⟩ := h
        refine va_sld hx hb hX hbl hbA hS hc dL_law_325 ?_
        refine lv_aload_n hx hb dL_law_326 rfl (lv_at hl 0 rfl) ?_
        refine lv_iload hx hb dL_law_327 (lv_at hl 4 rfl) ?_
        refine lv_iconst (v := 3) hx hb dL_law_329 (by decide) ?_
        refine lv_iadd hx hb dL_law_330 ?_
        obtain ⟨hc, h⟩ := h
        refine va_sld hx hb hX hbl hbA hS hc dL_law_331 ?_
        refine kXi (rnV C.one (ct_X5_set l D cy x0 Aa Ab hap h) yv_X5_set wq_535 ⟨rfl, rfl⟩ ⟨Nat.le_of_ble_eq_true rfl, Nat.le_of_ble_eq_true rfl⟩ ⟨hcR.1, hcR.2⟩ (vX C.one hPx) ⟨hPa, hPb, hPx⟩ hl.1 rfl rfl (Nat.le_of_ble_eq_true rfl) dL_law_332) hS g8 (fun r332 σa332 μa332 σb332 μb332 H locs h hPa hPb hPx hk hS => ?_)
        have hPm := keepW rM g1 hPm hk
        have hPo := keepW rO (fun _ _ => g5) hPo hk
        refine lv_pop hx hb dL_law_335 rfl ?_
        refine lv_aload_n hx hb dL_law_336 rfl (lv_at hl 2 rfl) ?_
        refine lv_aload_n hx hb dL_law_337 rfl (lv_at hl 0 rfl) ?_
        refine lv_iload hx hb dL_law_338 (lv_at hl 4 rfl) ?_
        refine lv_iconst (v := 1) hx hb dL_law_340 (by decide) ?_
        refine lv_iadd hx hb dL_law_341 ?_
        obtain ⟨hc, h⟩ := h
        refine va_sld hx hb hX hbl hbA hS hc dL_law_342 ?_
        refine lv_aload_n hx hb dL_law_343 rfl (lv_at hl 0 rfl) ?_
        refine lv_iload hx hb dL_law_344 (lv_at hl 4 rfl) ?_
        refine lv_iconst (v := 2) hx hb dL_law_346 (by decide) ?_
        refine lv_iadd hx hb dL_law_347 ?_
        obtain ⟨hc, h⟩ := h
        refine va_sld hx hb hX hbl hbA hS hc dL_law_348 ?_
        refine lv_aload_n hx hb dL_law_349 rfl (lv_at hl 0 rfl) ?_
        refine lv_iload hx hb dL_law_350 (lv_at hl 4 rfl) ?_
        refine lv_iconst (v := 3) hx hb dL_law_352 (by decide) ?_
        refine lv_iadd hx hb dL_law_353 ?_
        obtain ⟨hc, h⟩ := h
        refine va_sld hx hb hX hbl hbA hS hc dL_law_354 ?_
        refine kWi (rnV C.one (ct_X6_set l D cy Am hapM h) yv_X6_set wq_1088 ⟨rfl, rfl⟩ ⟨Nat.le_of_ble_eq_true rfl, Nat.le_of_ble_eq_true rfl⟩ ⟨hcR.1, hcR.2⟩ (vM_model C.one hPm) hPm hl.1 rfl rfl (Nat.le_of_ble_eq_true rfl) dL_law_355) hS g9 (fun r355 τ355 ν355 H locs h hPm hk hS => ?_)
        have hPa := keepW rS g2 hPa hk
        have hPb := keepW rS g3 hPb hk
        have hPx := keepW (rX (x0 := x0) (Aa := Aa) (Ab := Ab)) (fun _ _ => g4) hPx hk
        have hPo := keepW rO (fun _ _ => g6) hPo hk
        refine lv_pop hx hb dL_law_358 rfl ?_
        refine lv_goto (tgt := 964) hx hb dL_law_359 (by decide) ?_
        exact wk_L_law_964 C hlt G hE hcR hc1 hk23 h hPa hPb hPx hPm hPo hS (lv_sub hl [0, 1, 2, 3, 4] rfl)
      · have h := h.2.2.2.2.2.2.2.1 (Int32.toInt_inj.mp (by rw [hr]; rfl))
        refine lv_tableIn (off := 322) (tgt := 362) hx hb dL_law_40 (by omega) (by omega) (by rw [hr]; rfl) (by decide) ?_
        refine lv_aload_n hx hb dL_law_362 rfl (lv_at hl 1 rfl) ?_
        refine lv_aload_n hx hb dL_law_363 rfl (lv_at hl 0 rfl) ?_
        refine lv_iload hx hb dL_law_364 (lv_at hl 4 rfl) ?_
        refine lv_iconst (v := 1) hx hb dL_law_366 (by decide) ?_
        refine lv_iadd hx hb dL_law_367 ?_
        obtain ⟨hc, h⟩ := h
        refine va_sld hx hb hX hbl hbA hS hc dL_law_368 ?_
        refine kXi (rnV C.one (ct_X5_drop l D cy x0 Aa Ab hap h) yv_X5_drop wq_629 ⟨rfl, rfl⟩ ⟨Nat.le_of_ble_eq_true rfl, Nat.le_of_ble_eq_true rfl⟩ ⟨hcR.1, hcR.2⟩ (vX C.one hPx) ⟨hPa, hPb, hPx⟩ hl.1 rfl rfl (Nat.le_of_ble_eq_true rfl) dL_law_369) hS g8 (fun r369 σa369 μa369 σb369 μb369 H locs h hPa hPb hPx hk hS => ?_)
        have hPm := keepW rM g1 hPm hk
        have hPo := keepW rO (fun _ _ => g5) hPo hk
        refine lv_pop hx hb dL_law_372 rfl ?_
        refine lv_aload_n hx hb dL_law_373 rfl (lv_at hl 2 rfl) ?_
        refine lv_aload_n hx hb dL_law_374 rfl (lv_at hl 0 rfl) ?_
        refine lv_iload hx hb dL_law_375 (lv_at hl 4 rfl) ?_
        refine lv_iconst (v := 1) hx hb dL_law_377 (by decide) ?_
        refine lv_iadd hx hb dL_law_378 ?_
        obtain ⟨hc, h⟩ := h
        refine va_sld hx hb hX hbl hbA hS hc dL_law_379 ?_
        refine kWi (rnV C.one (ct_X6_drop l D cy Am hapM h) yv_X6_drop wq_1163 ⟨rfl, rfl⟩ ⟨Nat.le_of_ble_eq_true rfl, Nat.le_of_ble_eq_true rfl⟩ ⟨hcR.1, hcR.2⟩ (vM_model C.one hPm) hPm hl.1 rfl rfl (Nat.le_of_ble_eq_true rfl) dL_law_380) hS g9 (fun r380 τ380 ν380 H locs h hPm hk hS => ?_)
        have hPa := keepW rS g2 hPa hk
        have hPb := keepW rS g3 hPb hk
        have hPx := keepW (rX (x0 := x0) (Aa := Aa) (Ab := Ab)) (fun _ _ => g4) hPx hk
        have hPo := keepW rO (fun _ _ => g6) hPo hk
        refine lv_pop hx hb dL_law_383 rfl ?_
        refine lv_goto (tgt := 964) hx hb dL_law_384 (by decide) ?_
        exact wk_L_law_964 C hlt G hE hcR hc1 hk23 h hPa hPb hPx hPm hPo hS (lv_sub hl [0, 1, 2, 3, 4] rfl)
      · have h := h.2.2.2.2.2.2.2.2.1 (Int32.toInt_inj.mp (by rw [hr]; rfl))
        refine lv_tableIn (off := 347) (tgt := 387) hx hb dL_law_40 (by omega) (by omega) (by rw [hr]; rfl) (by decide) ?_
        refine lv_aload_n hx hb dL_law_387 rfl (lv_at hl 1 rfl) ?_
        refine lv_aload_n hx hb dL_law_388 rfl (lv_at hl 0 rfl) ?_
        refine lv_iload hx hb dL_law_389 (lv_at hl 4 rfl) ?_
        refine lv_iconst (v := 1) hx hb dL_law_391 (by decide) ?_
        refine lv_iadd hx hb dL_law_392 ?_
        obtain ⟨hc, h⟩ := h
        refine va_sld hx hb hX hbl hbA hS hc dL_law_393 ?_
        refine kXi (rnV C.one (ct_X5_bump l D cy x0 Aa Ab hap h) yv_X5_bump wq_638 ⟨rfl, rfl⟩ ⟨Nat.le_of_ble_eq_true rfl, Nat.le_of_ble_eq_true rfl⟩ ⟨hcR.1, hcR.2⟩ (vX C.one hPx) ⟨hPa, hPb, hPx⟩ hl.1 rfl rfl (Nat.le_of_ble_eq_true rfl) dL_law_394) hS g8 (fun r394 σa394 μa394 σb394 μb394 H locs h hPa hPb hPx hk hS => ?_)
        have hPm := keepW rM g1 hPm hk
        have hPo := keepW rO (fun _ _ => g5) hPo hk
        refine lv_pop hx hb dL_law_397 rfl ?_
        refine lv_aload_n hx hb dL_law_398 rfl (lv_at hl 2 rfl) ?_
        refine lv_aload_n hx hb dL_law_399 rfl (lv_at hl 0 rfl) ?_
        refine lv_iload hx hb dL_law_400 (lv_at hl 4 rfl) ?_
        refine lv_iconst (v := 1) hx hb dL_law_402 (by decide) ?_
        refine lv_iadd hx hb dL_law_403 ?_
        obtain ⟨hc, h⟩ := h
        refine va_sld hx hb hX hbl hbA hS hc dL_law_404 ?_
        refine kWi (rnV C.one (ct_X6_bump l D cy Am hapM h) yv_X6_bump wq_1167 ⟨rfl, rfl⟩ ⟨Nat.le_of_ble_eq_true rfl, Nat.le_of_ble_eq_true rfl⟩ ⟨hcR.1, hcR.2⟩ (vM_model C.one hPm) hPm hl.1 rfl rfl (Nat.le_of_ble_eq_true rfl) dL_law_405) hS g9 (fun r405 τ405 ν405 H locs h hPm hk hS => ?_)
        have hPa := keepW rS g2 hPa hk
        have hPb := keepW rS g3 hPb hk
        have hPx := keepW (rX (x0 := x0) (Aa := Aa) (Ab := Ab)) (fun _ _ => g4) hPx hk
        have hPo := keepW rO (fun _ _ => g6) hPo hk
        refine lv_pop hx hb dL_law_408 rfl ?_
        refine lv_goto (tgt := 964) hx hb dL_law_409 (by decide) ?_
        exact wk_L_law_964 C hlt G hE hcR hc1 hk23 h hPa hPb hPx hPm hPo hS (lv_sub hl [0, 1, 2, 3, 4] rfl)
      · have h := h.2.2.2.2.2.2.2.2.2.1 (Int32.toInt_inj.mp (by rw [hr]; rfl))
        refine lv_tableIn (off := 372) (tgt := 412) hx hb dL_law_40 (by omega) (by omega) (by rw [hr]; rfl) (by decide) ?_
        refine lv_aload_n hx hb dL_law_412 rfl (lv_at hl 1 rfl) ?_
        refine kXi (rnV C.one (ct_X5_begin l D cy x0 Aa Ab hap h) yv_X5_begin wq_660 ⟨rfl, rfl⟩ ⟨Nat.le_of_ble_eq_true rfl, Nat.le_of_ble_eq_true rfl⟩ ⟨hcR.1, hcR.2⟩ (vX C.one hPx) ⟨hPa, hPb, hPx⟩ hl.1 rfl rfl (Nat.le_of_ble_eq_true rfl) dL_law_413) hS g8 (fun r413 σa413 μa413 σb413 μb413 H locs h hPa hPb hPx hk hS => ?_)
        have hPm := keepW rM g1 hPm hk
        have hPo := keepW rO (fun _ _ => g5) hPo hk
        refine lv_pop hx hb dL_law_416 rfl ?_
        refine lv_aload_n hx hb dL_law_417 rfl (lv_at hl 2 rfl) ?_
        refine kWi (rnV C.one (ct_X6_begin l D cy Am hapM h) yv_X6_begin wq_1184 ⟨rfl, rfl⟩ ⟨Nat.le_of_ble_eq_true rfl, Nat.le_of_ble_eq_true rfl⟩ ⟨hcR.1, hcR.2⟩ (vM_model C.one hPm) hPm hl.1 rfl rfl (Nat.le_of_ble_eq_true rfl) dL_law_418) hS g9 (fun r418 τ418 ν418 H locs h hPm hk hS => ?_)
        have hPa := keepW rS g2 hPa hk
        have hPb := keepW rS g3 hPb hk
        have hPx := keepW (rX (x0 := x0) (Aa := Aa) (Ab := Ab)) (fun _ _ => g4) hPx hk
        have hPo := keepW rO (fun _ _ => g6) hPo hk
        refine lv_pop hx hb dL_law_421 rfl ?_
        refine lv_goto (tgt := 964) hx hb dL_law_422 (by decide) ?_
        exact wk_L_law_964 C hlt G hE hcR hc1 hk23 h hPa hPb hPx hPm hPo hS (lv_sub hl [0, 1, 2, 3, 4] rfl)
      · have h := h.2.2.2.2.2.2.2.2.2.2.1 (Int32.toInt_inj.mp (by rw [hr]; rfl))
        refine lv_tableIn (off := 385) (tgt := 425) hx hb dL_law_40 (by omega) (by omega) (by rw [hr]; rfl) (by decide) ?_
        refine lv_aload_n hx hb dL_law_425 rfl (lv_at hl 1 rfl) ?_
        refine kXi (rnV C.one (ct_X5_commit l D cy x0 Aa Ab hap h) yv_X5_commit wq_668 ⟨rfl, rfl⟩ ⟨Nat.le_of_ble_eq_true rfl, Nat.le_of_ble_eq_true rfl⟩ ⟨hcR.1, hcR.2⟩ (vX C.one hPx) ⟨hPa, hPb, hPx⟩ hl.1 rfl rfl (Nat.le_of_ble_eq_true rfl) dL_law_426) hS g8 (fun r426 σa426 μa426 σb426 μb426 H locs h hPa hPb hPx hk hS => ?_)
        have hPm := keepW rM g1 hPm hk
        have hPo := keepW rO (fun _ _ => g5) hPo hk
        refine lv_aload_n hx hb dL_law_429 rfl (lv_at hl 2 rfl) ?_
        refine kWi (rnV C.one (ct_X6_commit l D cy Am hapM h) yv_X6_commit wq_1188 ⟨rfl, rfl⟩ ⟨Nat.le_of_ble_eq_true rfl, Nat.le_of_ble_eq_true rfl⟩ ⟨hcR.1, hcR.2⟩ (vM_model C.one hPm) hPm hl.1 rfl rfl (Nat.le_of_ble_eq_true rfl) dL_law_430) hS g9 (fun r430 τ430 ν430 H locs h hPm hk hS => ?_)
        have hPa := keepW rS g2 hPa hk
        have hPb := keepW rS g3 hPb hk
        have hPx := keepW (rX (x0 := x0) (Aa := Aa) (Ab := Ab)) (fun _ _ => g4) hPx hk
        have hPo := keepW rO (fun _ _ => g6) hPo hk
        refine lv_icmp_eq (tgt := 964) hx hb dL_law_433 (by decide) (fun hc => ?_) (fun hc => ?_)
        · have h := h.1 hc
          exact wk_L_law_964 C hlt G hE hcR hc1 hk23 h hPa hPb hPx hPm hPo hS (lv_sub hl [0, 1, 2, 3, 4] rfl)
        · have h := h.2 hc
          refine lv_iconst (v := 0) hx hb dL_law_436 (by decide) ?_
          exact h.elim
      · have h := h.2.2.2.2.2.2.2.2.2.2.2.1 (Int32.toInt_inj.mp (by rw [hr]; rfl))
        refine lv_tableIn (off := 398) (tgt := 438) hx hb dL_law_40 (by omega) (by omega) (by rw [hr]; rfl) (by decide) ?_
        refine lv_aload_n hx hb dL_law_438 rfl (lv_at hl 1 rfl) ?_
        refine kXi (rnV C.one (ct_X5_abort l D cy x0 Aa Ab hap h) yv_X5_abort wq_685 ⟨rfl, rfl⟩ ⟨Nat.le_of_ble_eq_true rfl, Nat.le_of_ble_eq_true rfl⟩ ⟨hcR.1, hcR.2⟩ (vX C.one hPx) ⟨hPa, hPb, hPx⟩ hl.1 rfl rfl (Nat.le_of_ble_eq_true rfl) dL_law_439) hS g8 (fun r439 σa439 μa439 σb439 μb439 H locs h hPa hPb hPx hk hS => ?_)
        have hPm := keepW rM g1 hPm hk
        have hPo := keepW rO (fun _ _ => g5) hPo hk
        refine lv_pop hx hb dL_law_442 rfl ?_
        refine lv_aload_n hx hb dL_law_443 rfl (lv_at hl 2 rfl) ?_
        refine kWi (rnV C.one (ct_X6_abort l D cy Am hapM h) yv_X6_abort wq_1192 ⟨rfl, rfl⟩ ⟨Nat.le_of_ble_eq_true rfl, Nat.le_of_ble_eq_true rfl⟩ ⟨hcR.1, hcR.2⟩ (vM_model C.one hPm) hPm hl.1 rfl rfl (Nat.le_of_ble_eq_true rfl) dL_law_444) hS g9 (fun r444 τ444 ν444 H locs h hPm hk hS => ?_)
        have hPa := keepW rS g2 hPa hk
        have hPb := keepW rS g3 hPb hk
        have hPx := keepW (rX (x0 := x0) (Aa := Aa) (Ab := Ab)) (fun _ _ => g4) hPx hk
        have hPo := keepW rO (fun _ _ => g6) hPo hk
        refine lv_pop hx hb dL_law_447 rfl ?_
        refine lv_goto (tgt := 964) hx hb dL_law_448 (by decide) ?_
        exact wk_L_law_964 C hlt G hE hcR hc1 hk23 h hPa hPb hPx hPm hPo hS (lv_sub hl [0, 1, 2, 3, 4] rfl)
      · have h := h.2.2.2.2.2.2.2.2.2.2.2.2.1 (Int32.toInt_inj.mp (by rw [hr]; rfl))
        refine lv_tableIn (off := 411) (tgt := 451) hx hb dL_law_40 (by omega) (by omega) (by rw [hr]; rfl) (by decide) ?_
        refine lv_aload_n hx hb dL_law_451 rfl (lv_at hl 1 rfl) ?_
        refine lv_aload_n hx hb dL_law_452 rfl (lv_at hl 0 rfl) ?_
        refine lv_iload hx hb dL_law_453 (lv_at hl 4 rfl) ?_
        refine lv_iconst (v := 1) hx hb dL_law_455 (by decide) ?_
        refine lv_iadd hx hb dL_law_456 ?_
        obtain ⟨hc, h⟩ := h
        refine va_sld hx hb hX hbl hbA hS hc dL_law_457 ?_
        refine kXl (rnV C.one (ct_X5_get l D cy x0 Aa Ab hap h) yv_X5_get wq_689 ⟨rfl, rfl⟩ ⟨Nat.le_of_ble_eq_true rfl, Nat.le_of_ble_eq_true rfl⟩ ⟨hcR.1, hcR.2⟩ (vX C.one hPx) ⟨hPa, hPb, hPx⟩ hl.1 rfl rfl (Nat.le_of_ble_eq_true rfl) dL_law_458) hS g8 (fun r458 σa458 μa458 σb458 μb458 H locs h hPa hPb hPx hk hS => ?_)
        have hPm := keepW rM g1 hPm hk
        have hPo := keepW rO (fun _ _ => g5) hPo hk
        refine lv_pop2_2 hx hb dL_law_461 rfl ?_
        refine lv_aload_n hx hb dL_law_462 rfl (lv_at hl 2 rfl) ?_
        refine lv_aload_n hx hb dL_law_463 rfl (lv_at hl 0 rfl) ?_
        refine lv_iload hx hb dL_law_464 (lv_at hl 4 rfl) ?_
        refine lv_iconst (v := 1) hx hb dL_law_466 (by decide) ?_
        refine lv_iadd hx hb dL_law_467 ?_
        obtain ⟨hc, h⟩ := h
        refine va_sld hx hb hX hbl hbA hS hc dL_law_468 ?_
        refine kWl (rnV C.one (ct_X6_get l D cy Am hapM h) yv_X6_get wq_1196 ⟨rfl, rfl⟩ ⟨Nat.le_of_ble_eq_true rfl, Nat.le_of_ble_eq_true rfl⟩ ⟨hcR.1, hcR.2⟩ (vM_model C.one hPm) hPm hl.1 rfl rfl (Nat.le_of_ble_eq_true rfl) dL_law_469) hS g9 (fun r469 τ469 ν469 H locs h hPm hk hS => ?_)
        have hPa := keepW rS g2 hPa hk
        have hPb := keepW rS g3 hPb hk
        have hPx := keepW (rX (x0 := x0) (Aa := Aa) (Ab := Ab)) (fun _ _ => g4) hPx hk
        have hPo := keepW rO (fun _ _ => g6) hPo hk
        refine lv_pop2_2 hx hb dL_law_472 rfl ?_
        refine lv_goto (tgt := 964) hx hb dL_law_473 (by decide) ?_
        exact wk_L_law_964 C hlt G hE hcR hc1 hk23 h hPa hPb hPx hPm hPo hS (lv_sub hl [0, 1, 2, 3, 4] rfl)
      · have h := h.2.2.2.2.2.2.2.2.2.2.2.2.2.1 (Int32.toInt_inj.mp (by rw [hr]; rfl))
        refine lv_tableIn (off := 436) (tgt := 476) hx hb dL_law_40 (by omega) (by omega) (by rw [hr]; rfl) (by decide) ?_
        refine lv_aload_n hx hb dL_law_476 rfl (lv_at hl 1 rfl) ?_
        refine lv_aload_n hx hb dL_law_477 rfl (lv_at hl 0 rfl) ?_
        refine lv_iload hx hb dL_law_478 (lv_at hl 4 rfl) ?_
        refine lv_iconst (v := 1) hx hb dL_law_480 (by decide) ?_
        refine lv_iadd hx hb dL_law_481 ?_
        obtain ⟨hc, h⟩ := h
        refine va_sld hx hb hX hbl hbA hS hc dL_law_482 ?_
        refine kXi (rnV C.one (ct_X5_length l D cy x0 Aa Ab hap h) yv_X5_length wq_697 ⟨rfl, rfl⟩ ⟨Nat.le_of_ble_eq_true rfl, Nat.le_of_ble_eq_true rfl⟩ ⟨hcR.1, hcR.2⟩ (vX C.one hPx) ⟨hPa, hPb, hPx⟩ hl.1 rfl rfl (Nat.le_of_ble_eq_true rfl) dL_law_483) hS g8 (fun r483 σa483 μa483 σb483 μb483 H locs h hPa hPb hPx hk hS => ?_)
        have hPm := keepW rM g1 hPm hk
        have hPo := keepW rO (fun _ _ => g5) hPo hk
        refine lv_pop hx hb dL_law_486 rfl ?_
        refine lv_aload_n hx hb dL_law_487 rfl (lv_at hl 2 rfl) ?_
        refine lv_aload_n hx hb dL_law_488 rfl (lv_at hl 0 rfl) ?_
        refine lv_iload hx hb dL_law_489 (lv_at hl 4 rfl) ?_
        refine lv_iconst (v := 1) hx hb dL_law_491 (by decide) ?_
        refine lv_iadd hx hb dL_law_492 ?_
        obtain ⟨hc, h⟩ := h
        refine va_sld hx hb hX hbl hbA hS hc dL_law_493 ?_
        refine kWi (rnV C.one (ct_X6_length l D cy Am hapM h) yv_X6_length wq_1209 ⟨rfl, rfl⟩ ⟨Nat.le_of_ble_eq_true rfl, Nat.le_of_ble_eq_true rfl⟩ ⟨hcR.1, hcR.2⟩ (vM_model C.one hPm) hPm hl.1 rfl rfl (Nat.le_of_ble_eq_true rfl) dL_law_494) hS g9 (fun r494 τ494 ν494 H locs h hPm hk hS => ?_)
        have hPa := keepW rS g2 hPa hk
        have hPb := keepW rS g3 hPb hk
        have hPx := keepW (rX (x0 := x0) (Aa := Aa) (Ab := Ab)) (fun _ _ => g4) hPx hk
        have hPo := keepW rO (fun _ _ => g6) hPo hk
        refine lv_pop hx hb dL_law_497 rfl ?_
        refine lv_goto (tgt := 964) hx hb dL_law_498 (by decide) ?_
        exact wk_L_law_964 C hlt G hE hcR hc1 hk23 h hPa hPb hPx hPm hPo hS (lv_sub hl [0, 1, 2, 3, 4] rfl)
      · have h := h.2.2.2.2.2.2.2.2.2.2.2.2.2.2.1 (Int32.toInt_inj.mp (by rw [hr]; rfl))
        refine lv_tableIn (off := 461) (tgt := 501) hx hb dL_law_40 (by omega) (by omega) (by rw [hr]; rfl) (by decide) ?_
        refine lv_aload_n hx hb dL_law_501 rfl (lv_at hl 1 rfl) ?_
        refine kXi (rnV C.one (ct_X5_hand l D cy x0 Aa Ab hap h) yv_X5_hand wq_702 ⟨rfl, rfl⟩ ⟨Nat.le_of_ble_eq_true rfl, Nat.le_of_ble_eq_true rfl⟩ ⟨hcR.1, hcR.2⟩ (vX C.one hPx) ⟨hPa, hPb, hPx⟩ hl.1 rfl rfl (Nat.le_of_ble_eq_true rfl) dL_law_502) hS g8 (fun r502 σa502 μa502 σb502 μb502 H locs h hPa hPb hPx hk hS => ?_)
        have hPm := keepW rM g1 hPm hk
        have hPo := keepW rO (fun _ _ => g5) hPo hk
        refine lv_pop hx hb dL_law_505 rfl ?_
        refine lv_aload_n hx hb dL_law_506 rfl (lv_at hl 2 rfl) ?_
        refine kWi (rnV C.one (ct_X6_hand l D cy Am hapM h) yv_X6_hand wq_1213 ⟨rfl, rfl⟩ ⟨Nat.le_of_ble_eq_true rfl, Nat.le_of_ble_eq_true rfl⟩ ⟨hcR.1, hcR.2⟩ (vM_model C.one hPm) hPm hl.1 rfl rfl (Nat.le_of_ble_eq_true rfl) dL_law_507) hS g9 (fun r507 τ507 ν507 H locs h hPm hk hS => ?_)
        have hPa := keepW rS g2 hPa hk
        have hPb := keepW rS g3 hPb hk
        have hPx := keepW (rX (x0 := x0) (Aa := Aa) (Ab := Ab)) (fun _ _ => g4) hPx hk
        have hPo := keepW rO (fun _ _ => g6) hPo hk
        refine lv_pop hx hb dL_law_510 rfl ?_
        refine lv_goto (tgt := 964) hx hb dL_law_511 (by decide) ?_
        exact wk_L_law_964 C hlt G hE hcR hc1 hk23 h hPa hPb hPx hPm hPo hS (lv_sub hl [0, 1, 2, 3, 4] rfl)
      · have h := h.2.2.2.2.2.2.2.2.2.2.2.2.2.2.2.1 (Int32.toInt_inj.mp (by rw [hr]; rfl))
        refine lv_tableIn (off := 474) (tgt := 514) hx hb dL_law_40 (by omega) (by omega) (by rw [hr]; rfl) (by decide) ?_
        refine lv_aload_n hx hb dL_law_514 rfl (lv_at hl 1 rfl) ?_
        refine lv_aload_n hx hb dL_law_515 rfl (lv_at hl 0 rfl) ?_
        refine lv_iload hx hb dL_law_516 (lv_at hl 4 rfl) ?_
        refine lv_iconst (v := 1) hx hb dL_law_518 (by decide) ?_
        refine lv_iadd hx hb dL_law_519 ?_
        obtain ⟨hc, h⟩ := h
        refine va_sld hx hb hX hbl hbA hS hc dL_law_520 ?_
        refine lv_aload_n hx hb dL_law_521 rfl (lv_at hl 0 rfl) ?_
        refine lv_iload hx hb dL_law_522 (lv_at hl 4 rfl) ?_
        refine lv_iconst (v := 2) hx hb dL_law_524 (by decide) ?_
        refine lv_iadd hx hb dL_law_525 ?_
        obtain ⟨hc, h⟩ := h
        refine va_sld hx hb hX hbl hbA hS hc dL_law_526 ?_
        refine lv_aload_n hx hb dL_law_527 rfl (lv_at hl 3 rfl) ?_
        refine va_calli (vx_runSW (As := [.ref x0, .int (xs ((v4 + (1 : Int32))).toNatClampNeg), .int (xs ((v4 + (2 : Int32))).toNatClampNeg), .ref o]) (rest := []) (Ts := gw) (hh := [(0, 10, 13, 13)]) (n := 4) ⟨hx, hb, C.2.2.1, C.2.2.2.1, C.2.2.2.2.2.2.1⟩ (ct_L_at l hlt D cy cl x0 o Aa Ab hap g5 g7 sa h) (cwLat C.2.2.2.2.2.2.1 wq_840 ⟨Nat.le_of_ble_eq_true rfl, Nat.le_of_ble_eq_true rfl⟩) ⟨blindAt, preLat C ⟨hPa, hPb, hPx, hPo⟩ (exAt hE hS g8 g10)⟩ rfl rfl hl.1 rfl (lv_room (Nat.le_of_ble_eq_true rfl)) dL_law_528 ⟨hc2.2.2.1, hc2.2.2.2⟩) hS (fun q _ h => h.elim (g8 q) (fun e => e ▸ g10)) (fun q h => h.elim (g8 q) (fun e => e ▸ g10)) (fun r528 u t H1 locs ht hvm hw hB hz1 hk hS => ?_)
        obtain ⟨σa528, μa528, σb528, μb528, f528⟩ := u
        have h := hw
        dsimp only at h
        obtain ⟨hPa, hPb, hPx, hPo⟩ := hB
        rw [ht] at hPa hPb hPx hPo
        have hPm := keepW rM (fun k hk2 h => h.elim (g1 k hk2) (fun e => g6 ⟨k, hk2, e.symm⟩)) hPm hk
        have hcR : c0 + 1 ≤ 1071 ∧ s0 + 6 ≤ 12584 := ⟨hc2.2.2.1, hc2.2.2.2⟩
        have hc1 : c0 + 1 ≤ c1 ∧ s0 + 6 ≤ s1 := ⟨hc2.1, hc2.2.1⟩
        refine lv_istore (lv' := [(5, .int r528), (0, .ref b), (1, .ref x0), (2, .ref (Am 0)), (3, .ref o), (4, .int v4)]) hx hb dL_law_531 hl (by decide) rfl (fun ls hl => ?_)
        refine lv_aload_n hx hb dL_law_533 rfl (lv_at hl 3 rfl) ?_
        refine lv_aload_n hx hb dL_law_534 rfl (lv_at hl 1 rfl) ?_
        refine lv_iload hx hb dL_law_535 (lv_at hl 5 rfl) ?_
        refine lv_iconst (v := 1) hx hb dL_law_537 (by decide) ?_
        refine lv_iadd hx hb dL_law_538 ?_
        obtain ⟨hc, h⟩ := h
        refine va_sld hx hb hX hbl hbA hS hc dL_law_539 ?_
        refine lv_aload_n hx hb dL_law_540 rfl (lv_at hl 1 rfl) ?_
        refine lv_iload hx hb dL_law_541 (lv_at hl 5 rfl) ?_
        refine lv_iconst (v := 2) hx hb dL_law_543 (by decide) ?_
        refine lv_iadd hx hb dL_law_544 ?_
        obtain ⟨hc, h⟩ := h
        refine va_sld hx hb hX hbl hbA hS hc dL_law_545 ?_
        refine kWi (rnV C.one (ct_X6_at l D cy Am hapM h) yv_X6_at wq_1217 ⟨rfl, rfl⟩ ⟨Nat.le_of_ble_eq_true rfl, Nat.le_of_ble_eq_true rfl⟩ ⟨hcR.1, hcR.2⟩ (vM_model C.one hPm) hPm hl.1 rfl rfl (Nat.le_of_ble_eq_true rfl) dL_law_546) hS g9 (fun r546 τ546 ν546 H locs h hPm hk hS => ?_)
        have hPa := keepW rS g2 hPa hk
        have hPb := keepW rS g3 hPb hk
        have hPx := keepW (rX (x0 := x0) (Aa := Aa) (Ab := Ab)) (fun _ _ => g4) hPx hk
        have hPo := keepW rO (fun _ _ => g6) hPo hk
        refine lv_istore (lv' := [(6, .int r546), (5, .int r528), (0, .ref b), (1, .ref x0), (2, .ref (Am 0)), (3, .ref o), (4, .int v4)]) hx hb dL_law_549 hl (by decide) rfl (fun ls hl => ?_)
        refine lv_goto (tgt := 964) hx hb dL_law_551 (by decide) ?_
        exact wk_L_law_964 C hlt G hE hcR hc1 hk23 h hPa hPb hPx hPm hPo hS (lv_sub hl [2, 3, 4, 5, 6] rfl)
      · have h := h.2.2.2.2.2.2.2.2.2.2.2.2.2.2.2.2.1 (Int32.toInt_inj.mp (by rw [hr]; rfl))
        refine lv_tableIn (off := 514) (tgt := 554) hx hb dL_law_40 (by omega) (by omega) (by rw [hr]; rfl) (by decide) ?_
        refine lv_aload_n hx hb dL_law_554 rfl (lv_at hl 1 rfl) ?_
        refine lv_aload_n hx hb dL_law_555 rfl (lv_at hl 0 rfl) ?_
        refine lv_iload hx hb dL_law_556 (lv_at hl 4 rfl) ?_
        refine lv_iconst (v := 1) hx hb dL_law_558 (by decide) ?_
        refine lv_iadd hx hb dL_law_559 ?_
        obtain ⟨hc, h⟩ := h
        refine va_sld hx hb hX hbl hbA hS hc dL_law_560 ?_
        refine lv_aload_n hx hb dL_law_561 rfl (lv_at hl 0 rfl) ?_
        refine lv_iload hx hb dL_law_562 (lv_at hl 4 rfl) ?_
        refine lv_iconst (v := 2) hx hb dL_law_564 (by decide) ?_
        refine lv_iadd hx hb dL_law_565 ?_
        obtain ⟨hc, h⟩ := h
        refine va_sld hx hb hX hbl hbA hS hc dL_law_566 ?_
        refine kXi (rnV C.one (ct_X5_sector l D cy x0 Aa Ab hap h) yv_X5_sector wq_710 ⟨rfl, rfl⟩ ⟨Nat.le_of_ble_eq_true rfl, Nat.le_of_ble_eq_true rfl⟩ ⟨hcR.1, hcR.2⟩ (vX C.one hPx) ⟨hPa, hPb, hPx⟩ hl.1 rfl rfl (Nat.le_of_ble_eq_true rfl) dL_law_567) hS g8 (fun r567 σa567 μa567 σb567 μb567 H locs h hPa hPb hPx hk hS => ?_)
        have hPm := keepW rM g1 hPm hk
        have hPo := keepW rO (fun _ _ => g5) hPo hk
        refine lv_pop hx hb dL_law_570 rfl ?_
        refine lv_aload_n hx hb dL_law_571 rfl (lv_at hl 2 rfl) ?_
        refine lv_aload_n hx hb dL_law_572 rfl (lv_at hl 0 rfl) ?_
        refine lv_iload hx hb dL_law_573 (lv_at hl 4 rfl) ?_
        refine lv_iconst (v := 1) hx hb dL_law_575 (by decide) ?_
        refine lv_iadd hx hb dL_law_576 ?_
        obtain ⟨hc, h⟩ := h
        refine va_sld hx hb hX hbl hbA hS hc dL_law_577 ?_
        refine lv_aload_n hx hb dL_law_578 rfl (lv_at hl 0 rfl) ?_
        refine lv_iload hx hb dL_law_579 (lv_at hl 4 rfl) ?_
        refine lv_iconst (v := 2) hx hb dL_law_581 (by decide) ?_
        refine lv_iadd hx hb dL_law_582 ?_
        obtain ⟨hc, h⟩ := h
        refine va_sld hx hb hX hbl hbA hS hc dL_law_583 ?_
        refine kWi (rnV C.one (ct_X6_sector l D cy Am hapM h) yv_X6_sector wq_1221 ⟨rfl, rfl⟩ ⟨Nat.le_of_ble_eq_true rfl, Nat.le_of_ble_eq_true rfl⟩ ⟨hcR.1, hcR.2⟩ (vM_model C.one hPm) hPm hl.1 rfl rfl (Nat.le_of_ble_eq_true rfl) dL_law_584) hS g9 (fun r584 τ584 ν584 H locs h hPm hk hS => ?_)
        have hPa := keepW rS g2 hPa hk
        have hPb := keepW rS g3 hPb hk
        have hPx := keepW (rX (x0 := x0) (Aa := Aa) (Ab := Ab)) (fun _ _ => g4) hPx hk
        have hPo := keepW rO (fun _ _ => g6) hPo hk
        refine lv_pop hx hb dL_law_587 rfl ?_
        refine lv_goto (tgt := 964) hx hb dL_law_588 (by decide) ?_
        exact wk_L_law_964 C hlt G hE hcR hc1 hk23 h hPa hPb hPx hPm hPo hS (lv_sub hl [0, 1, 2, 3, 4] rfl)
      · have h := h.2.2.2.2.2.2.2.2.2.2.2.2.2.2.2.2.2.1 (Int32.toInt_inj.mp (by rw [hr]; rfl))
        refine lv_tableIn (off := 551) (tgt := 591) hx hb dL_law_40 (by omega) (by omega) (by rw [hr]; rfl) (by decide) ?_
        refine lv_aload_n hx hb dL_law_591 rfl (lv_at hl 1 rfl) ?_
        refine lv_aload_n hx hb dL_law_592 rfl (lv_at hl 0 rfl) ?_
        refine lv_iload hx hb dL_law_593 (lv_at hl 4 rfl) ?_
        refine lv_iconst (v := 1) hx hb dL_law_595 (by decide) ?_
        refine lv_iadd hx hb dL_law_596 ?_
        obtain ⟨hc, h⟩ := h
        refine va_sld hx hb hX hbl hbA hS hc dL_law_597 ?_
        refine lv_aload_n hx hb dL_law_598 rfl (lv_at hl 0 rfl) ?_
        refine lv_iload hx hb dL_law_599 (lv_at hl 4 rfl) ?_
        refine lv_iconst (v := 2) hx hb dL_law_601 (by decide) ?_
        refine lv_iadd hx hb dL_law_602 ?_
        obtain ⟨hc, h⟩ := h
        refine va_sld hx hb hX hbl hbA hS hc dL_law_603 ?_
        refine lv_aload_n hx hb dL_law_604 rfl (lv_at hl 0 rfl) ?_
        refine lv_iload hx hb dL_law_605 (lv_at hl 4 rfl) ?_
        refine lv_iconst (v := 3) hx hb dL_law_607 (by decide) ?_
        refine lv_iadd hx hb dL_law_608 ?_
        obtain ⟨hc, h⟩ := h
        refine va_sld hx hb hX hbl hbA hS hc dL_law_609 ?_
        refine kXi (rnV C.one (ct_X5_entry l D cy x0 Aa Ab hap h) yv_X5_entry wq_719 ⟨rfl, rfl⟩ ⟨Nat.le_of_ble_eq_true rfl, Nat.le_of_ble_eq_true rfl⟩ ⟨hcR.1, hcR.2⟩ (vX C.one hPx) ⟨hPa, hPb, hPx⟩ hl.1 rfl rfl (Nat.le_of_ble_eq_true rfl) dL_law_610) hS g8 (fun r610 σa610 μa610 σb610 μb610 H locs h hPa hPb hPx hk hS => ?_)
        have hPm := keepW rM g1 hPm hk
        have hPo := keepW rO (fun _ _ => g5) hPo hk
        refine lv_pop hx hb dL_law_613 rfl ?_
        refine lv_aload_n hx hb dL_law_614 rfl (lv_at hl 2 rfl) ?_
        refine lv_aload_n hx hb dL_law_615 rfl (lv_at hl 0 rfl) ?_
        refine lv_iload hx hb dL_law_616 (lv_at hl 4 rfl) ?_
        refine lv_iconst (v := 1) hx hb dL_law_618 (by decide) ?_
        refine lv_iadd hx hb dL_law_619 ?_
        obtain ⟨hc, h⟩ := h
        refine va_sld hx hb hX hbl hbA hS hc dL_law_620 ?_
        refine lv_aload_n hx hb dL_law_621 rfl (lv_at hl 0 rfl) ?_
        refine lv_iload hx hb dL_law_622 (lv_at hl 4 rfl) ?_
        refine lv_iconst (v := 2) hx hb dL_law_624 (by decide) ?_
        refine lv_iadd hx hb dL_law_625 ?_
        obtain ⟨hc, h⟩ := h
        refine va_sld hx hb hX hbl hbA hS hc dL_law_626 ?_
        refine lv_aload_n hx hb dL_law_627 rfl (lv_at hl 0 rfl) ?_
        refine lv_iload hx hb dL_law_628 (lv_at hl 4 rfl) ?_
        refine lv_iconst (v := 3) hx hb dL_law_630 (by decide) ?_
        refine lv_iadd hx hb dL_law_631 ?_
        obtain ⟨hc, h⟩ := h
        refine va_sld hx hb hX hbl hbA hS hc dL_law_632 ?_
        refine kWi (rnV C.one (ct_X6_entry l D cy Am hapM h) yv_X6_entry wq_1225 ⟨rfl, rfl⟩ ⟨Nat.le_of_ble_eq_true rfl, Nat.le_of_ble_eq_true rfl⟩ ⟨hcR.1, hcR.2⟩ (vM_model C.one hPm) hPm hl.1 rfl rfl (Nat.le_of_ble_eq_true rfl) dL_law_633) hS g9 (fun r633 τ633 ν633 H locs h hPm hk hS => ?_)
        have hPa := keepW rS g2 hPa hk
        have hPb := keepW rS g3 hPb hk
        have hPx := keepW (rX (x0 := x0) (Aa := Aa) (Ab := Ab)) (fun _ _ => g4) hPx hk
        have hPo := keepW rO (fun _ _ => g6) hPo hk
        refine lv_pop hx hb dL_law_636 rfl ?_
        refine lv_goto (tgt := 964) hx hb dL_law_637 (by decide) ?_
        exact wk_L_law_964 C hlt G hE hcR hc1 hk23 h hPa hPb hPx hPm hPo hS (lv_sub hl [0, 1, 2, 3, 4] rfl)
      · have h := h.2.2.2.2.2.2.2.2.2.2.2.2.2.2.2.2.2.2.1 (Int32.toInt_inj.mp (by rw [hr]; rfl))
        refine lv_tableIn (off := 600) (tgt := 640) hx hb dL_law_40 (by omega) (by omega) (by rw [hr]; rfl) (by decide) ?_
        refine lv_aload_n hx hb dL_law_640 rfl (lv_at hl 1 rfl) ?_
        refine lv_aload_n hx hb dL_law_641 rfl (lv_at hl 0 rfl) ?_
        refine lv_iload hx hb dL_law_642 (lv_at hl 4 rfl) ?_
        refine lv_iconst (v := 1) hx hb dL_law_644 (by decide) ?_
        refine lv_iadd hx hb dL_law_645 ?_
        obtain ⟨hc, h⟩ := h
        refine va_sld hx hb hX hbl hbA hS hc dL_law_646 ?_
        refine lv_aload_n hx hb dL_law_647 rfl (lv_at hl 0 rfl) ?_
        refine lv_iload hx hb dL_law_648 (lv_at hl 4 rfl) ?_
        refine lv_iconst (v := 2) hx hb dL_law_650 (by decide) ?_
        refine lv_iadd hx hb dL_law_651 ?_
        obtain ⟨hc, h⟩ := h
        refine va_sld hx hb hX hbl hbA hS hc dL_law_652 ?_
        refine kXi (rnV C.one (ct_X5_space l D cy x0 Aa Ab hap h) yv_X5_space wq_728 ⟨rfl, rfl⟩ ⟨Nat.le_of_ble_eq_true rfl, Nat.le_of_ble_eq_true rfl⟩ ⟨hcR.1, hcR.2⟩ (vX C.one hPx) ⟨hPa, hPb, hPx⟩ hl.1 rfl rfl (Nat.le_of_ble_eq_true rfl) dL_law_653) hS g8 (fun r653 σa653 μa653 σb653 μb653 H locs h hPa hPb hPx hk hS => ?_)
        have hPm := keepW rM g1 hPm hk
        have hPo := keepW rO (fun _ _ => g5) hPo hk
        refine lv_pop hx hb dL_law_656 rfl ?_
        refine lv_aload_n hx hb dL_law_657 rfl (lv_at hl 2 rfl) ?_
        refine lv_aload_n hx hb dL_law_658 rfl (lv_at hl 0 rfl) ?_
        refine lv_iload hx hb dL_law_659 (lv_at hl 4 rfl) ?_
        refine lv_iconst (v := 1) hx hb dL_law_661 (by decide) ?_
        refine lv_iadd hx hb dL_law_662 ?_
        obtain ⟨hc, h⟩ := h
        refine va_sld hx hb hX hbl hbA hS hc dL_law_663 ?_
        refine lv_aload_n hx hb dL_law_664 rfl (lv_at hl 0 rfl) ?_
        refine lv_iload hx hb dL_law_665 (lv_at hl 4 rfl) ?_
        refine lv_iconst (v := 2) hx hb dL_law_667 (by decide) ?_
        refine lv_iadd hx hb dL_law_668 ?_
        obtain ⟨hc, h⟩ := h
        refine va_sld hx hb hX hbl hbA hS hc dL_law_669 ?_
        refine kWi (rnV C.one (ct_X6_space l D cy Am hapM h) yv_X6_space wq_1229 ⟨rfl, rfl⟩ ⟨Nat.le_of_ble_eq_true rfl, Nat.le_of_ble_eq_true rfl⟩ ⟨hcR.1, hcR.2⟩ (vM_model C.one hPm) hPm hl.1 rfl rfl (Nat.le_of_ble_eq_true rfl) dL_law_670) hS g9 (fun r670 τ670 ν670 H locs h hPm hk hS => ?_)
        have hPa := keepW rS g2 hPa hk
        have hPb := keepW rS g3 hPb hk
        have hPx := keepW (rX (x0 := x0) (Aa := Aa) (Ab := Ab)) (fun _ _ => g4) hPx hk
        have hPo := keepW rO (fun _ _ => g6) hPo hk
        refine lv_pop hx hb dL_law_673 rfl ?_
        refine lv_goto (tgt := 964) hx hb dL_law_674 (by decide) ?_
        exact wk_L_law_964 C hlt G hE hcR hc1 hk23 h hPa hPb hPx hPm hPo hS (lv_sub hl [0, 1, 2, 3, 4] rfl)
      · have h := h.2.2.2.2.2.2.2.2.2.2.2.2.2.2.2.2.2.2.2.1 (Int32.toInt_inj.mp (by rw [hr]; rfl))
        refine lv_tableIn (off := 637) (tgt := 677) hx hb dL_law_40 (by omega) (by omega) (by rw [hr]; rfl) (by decide) ?_
        refine lv_aload_n hx hb dL_law_677 rfl (lv_at hl 1 rfl) ?_
        refine lv_aload_n hx hb dL_law_678 rfl (lv_at hl 0 rfl) ?_
        refine lv_iload hx hb dL_law_679 (lv_at hl 4 rfl) ?_
        refine lv_iconst (v := 1) hx hb dL_law_681 (by decide) ?_
        refine lv_iadd hx hb dL_law_682 ?_
        obtain ⟨hc, h⟩ := h
        refine va_sld hx hb hX hbl hbA hS hc dL_law_683 ?_
        refine kXi (rnV C.one (ct_X5_until l D cy x0 Aa Ab hap h) yv_X5_until wq_737 ⟨rfl, rfl⟩ ⟨Nat.le_of_ble_eq_true rfl, Nat.le_of_ble_eq_true rfl⟩ ⟨hcR.1, hcR.2⟩ (vX C.one hPx) ⟨hPa, hPb, hPx⟩ hl.1 rfl rfl (Nat.le_of_ble_eq_true rfl) dL_law_684) hS g8 (fun r684 σa684 μa684 σb684 μb684 H locs h hPa hPb hPx hk hS => ?_)
        have hPm := keepW rM g1 hPm hk
        have hPo := keepW rO (fun _ _ => g5) hPo hk
        refine lv_pop hx hb dL_law_687 rfl ?_
        refine lv_aload_n hx hb dL_law_688 rfl (lv_at hl 2 rfl) ?_
        refine lv_aload_n hx hb dL_law_689 rfl (lv_at hl 0 rfl) ?_
        refine lv_iload hx hb dL_law_690 (lv_at hl 4 rfl) ?_
        refine lv_iconst (v := 1) hx hb dL_law_692 (by decide) ?_
        refine lv_iadd hx hb dL_law_693 ?_
        obtain ⟨hc, h⟩ := h
        refine va_sld hx hb hX hbl hbA hS hc dL_law_694 ?_
        refine kWi (rnV C.one (ct_X6_until l D cy Am hapM h) yv_X6_until wq_1233 ⟨rfl, rfl⟩ ⟨Nat.le_of_ble_eq_true rfl, Nat.le_of_ble_eq_true rfl⟩ ⟨hcR.1, hcR.2⟩ (vM_model C.one hPm) hPm hl.1 rfl rfl (Nat.le_of_ble_eq_true rfl) dL_law_695) hS g9 (fun r695 τ695 ν695 H locs h hPm hk hS => ?_)
        have hPa := keepW rS g2 hPa hk
        have hPb := keepW rS g3 hPb hk
        have hPx := keepW (rX (x0 := x0) (Aa := Aa) (Ab := Ab)) (fun _ _ => g4) hPx hk
        have hPo := keepW rO (fun _ _ => g6) hPo hk
        refine lv_pop hx hb dL_law_698 rfl ?_
        refine lv_goto (tgt := 964) hx hb dL_law_699 (by decide) ?_
        exact wk_L_law_964 C hlt G hE hcR hc1 hk23 h hPa hPb hPx hPm hPo hS (lv_sub hl [0, 1, 2, 3, 4] rfl)
      · have h := h.2.2.2.2.2.2.2.2.2.2.2.2.2.2.2.2.2.2.2.2.1 (Int32.toInt_inj.mp (by rw [hr]; rfl))
        refine lv_tableIn (off := 662) (tgt := 702) hx hb dL_law_40 (by omega) (by omega) (by rw [hr]; rfl) (by decide) ?_
        refine lv_aload_n hx hb dL_law_702 rfl (lv_at hl 1 rfl) ?_
        refine kXi (rnV C.one (ct_X5_after l D cy x0 Aa Ab hap h) yv_X5_after wq_742 ⟨rfl, rfl⟩ ⟨Nat.le_of_ble_eq_true rfl, Nat.le_of_ble_eq_true rfl⟩ ⟨hcR.1, hcR.2⟩ (vX C.one hPx) ⟨hPa, hPb, hPx⟩ hl.1 rfl rfl (Nat.le_of_ble_eq_true rfl) dL_law_703) hS g8 (fun r703 σa703 μa703 σb703 μb703 H locs h hPa hPb hPx hk hS => ?_)
        have hPm := keepW rM g1 hPm hk
        have hPo := keepW rO (fun _ _ => g5) hPo hk
        refine lv_pop hx hb dL_law_706 rfl ?_
        refine lv_aload_n hx hb dL_law_707 rfl (lv_at hl 2 rfl) ?_
        refine kWi (rnV C.one (ct_X6_after l D cy Am hapM h) yv_X6_after wq_1237 ⟨rfl, rfl⟩ ⟨Nat.le_of_ble_eq_true rfl, Nat.le_of_ble_eq_true rfl⟩ ⟨hcR.1, hcR.2⟩ (vM_model C.one hPm) hPm hl.1 rfl rfl (Nat.le_of_ble_eq_true rfl) dL_law_708) hS g9 (fun r708 τ708 ν708 H locs h hPm hk hS => ?_)
        have hPa := keepW rS g2 hPa hk
        have hPb := keepW rS g3 hPb hk
        have hPx := keepW (rX (x0 := x0) (Aa := Aa) (Ab := Ab)) (fun _ _ => g4) hPx hk
        have hPo := keepW rO (fun _ _ => g6) hPo hk
        refine lv_pop hx hb dL_law_711 rfl ?_
        refine lv_goto (tgt := 964) hx hb dL_law_712 (by decide) ?_
        exact wk_L_law_964 C hlt G hE hcR hc1 hk23 h hPa hPb hPx hPm hPo hS (lv_sub hl [0, 1, 2, 3, 4] rfl)
      · have h := h.2.2.2.2.2.2.2.2.2.2.2.2.2.2.2.2.2.2.2.2.2.1 (Int32.toInt_inj.mp (by rw [hr]; rfl))
        refine lv_tableIn (off := 675) (tgt := 715) hx hb dL_law_40 (by omega) (by omega) (by rw [hr]; rfl) (by decide) ?_
        refine lv_aload_n hx hb dL_law_715 rfl (lv_at hl 1 rfl) ?_
        refine lv_aload_n hx hb dL_law_716 rfl (lv_at hl 0 rfl) ?_
        refine lv_iload hx hb dL_law_717 (lv_at hl 4 rfl) ?_
        refine lv_iconst (v := 1) hx hb dL_law_719 (by decide) ?_
        refine lv_iadd hx hb dL_law_720 ?_
        obtain ⟨hc, h⟩ := h
        refine va_sld hx hb hX hbl hbA hS hc dL_law_721 ?_
        refine kXi (rnV C.one (ct_X5_costs l D cy x0 Aa Ab hap h) yv_X5_costs wq_747 ⟨rfl, rfl⟩ ⟨Nat.le_of_ble_eq_true rfl, Nat.le_of_ble_eq_true rfl⟩ ⟨hcR.1, hcR.2⟩ (vX C.one hPx) ⟨hPa, hPb, hPx⟩ hl.1 rfl rfl (Nat.le_of_ble_eq_true rfl) dL_law_722) hS g8 (fun r722 σa722 μa722 σb722 μb722 H locs h hPa hPb hPx hk hS => ?_)
        have hPm := keepW rM g1 hPm hk
        have hPo := keepW rO (fun _ _ => g5) hPo hk
        refine lv_pop hx hb dL_law_725 rfl ?_
        refine lv_aload_n hx hb dL_law_726 rfl (lv_at hl 2 rfl) ?_
        refine lv_aload_n hx hb dL_law_727 rfl (lv_at hl 0 rfl) ?_
        refine lv_iload hx hb dL_law_728 (lv_at hl 4 rfl) ?_
        refine lv_iconst (v := 1) hx hb dL_law_730 (by decide) ?_
        refine lv_iadd hx hb dL_law_731 ?_
        obtain ⟨hc, h⟩ := h
        refine va_sld hx hb hX hbl hbA hS hc dL_law_732 ?_
        refine kWi (rnV C.one (ct_X6_costs l D cy Am hapM h) yv_X6_costs wq_1241 ⟨rfl, rfl⟩ ⟨Nat.le_of_ble_eq_true rfl, Nat.le_of_ble_eq_true rfl⟩ ⟨hcR.1, hcR.2⟩ (vM_model C.one hPm) hPm hl.1 rfl rfl (Nat.le_of_ble_eq_true rfl) dL_law_733) hS g9 (fun r733 τ733 ν733 H locs h hPm hk hS => ?_)
        have hPa := keepW rS g2 hPa hk
        have hPb := keepW rS g3 hPb hk
        have hPx := keepW (rX (x0 := x0) (Aa := Aa) (Ab := Ab)) (fun _ _ => g4) hPx hk
        have hPo := keepW rO (fun _ _ => g6) hPo hk
        refine lv_pop hx hb dL_law_736 rfl ?_
        refine lv_goto (tgt := 964) hx hb dL_law_737 (by decide) ?_
        exact wk_L_law_964 C hlt G hE hcR hc1 hk23 h hPa hPb hPx hPm hPo hS (lv_sub hl [0, 1, 2, 3, 4] rfl)
      · have h := h.2.2.2.2.2.2.2.2.2.2.2.2.2.2.2.2.2.2.2.2.2.2.1 (Int32.toInt_inj.mp (by rw [hr]; rfl))
        refine lv_tableIn (off := 700) (tgt := 740) hx hb dL_law_40 (by omega) (by omega) (by rw [hr]; rfl) (by decide) ?_
        refine lv_aload_n hx hb dL_law_740 rfl (lv_at hl 1 rfl) ?_
        refine lv_aload_n hx hb dL_law_741 rfl (lv_at hl 0 rfl) ?_
        refine lv_iload hx hb dL_law_742 (lv_at hl 4 rfl) ?_
        refine lv_iconst (v := 1) hx hb dL_law_744 (by decide) ?_
        refine lv_iadd hx hb dL_law_745 ?_
        obtain ⟨hc, h⟩ := h
        refine va_sld hx hb hX hbl hbA hS hc dL_law_746 ?_
        refine lv_aload_n hx hb dL_law_747 rfl (lv_at hl 0 rfl) ?_
        refine lv_iload hx hb dL_law_748 (lv_at hl 4 rfl) ?_
        refine lv_iconst (v := 2) hx hb dL_law_750 (by decide) ?_
        refine lv_iadd hx hb dL_law_751 ?_
        obtain ⟨hc, h⟩ := h
        refine va_sld hx hb hX hbl hbA hS hc dL_law_752 ?_
        refine lv_aload_n hx hb dL_law_753 rfl (lv_at hl 0 rfl) ?_
        refine lv_iload hx hb dL_law_754 (lv_at hl 4 rfl) ?_
        refine lv_iconst (v := 3) hx hb dL_law_756 (by decide) ?_
        refine lv_iadd hx hb dL_law_757 ?_
        obtain ⟨hc, h⟩ := h
        refine va_sld hx hb hX hbl hbA hS hc dL_law_758 ?_
        refine lv_aload_n hx hb dL_law_759 rfl (lv_at hl 0 rfl) ?_
        refine lv_iload hx hb dL_law_760 (lv_at hl 4 rfl) ?_
        refine lv_iconst (v := 4) hx hb dL_law_762 (by decide) ?_
        refine lv_iadd hx hb dL_law_763 ?_
        obtain ⟨hc, h⟩ := h
        refine va_sld hx hb hX hbl hbA hS hc dL_law_764 ?_
        refine lv_aload_n hx hb dL_law_765 rfl (lv_at hl 0 rfl) ?_
        refine lv_iload hx hb dL_law_766 (lv_at hl 4 rfl) ?_
        refine lv_iconst (v := 5) hx hb dL_law_768 (by decide) ?_
        refine lv_iadd hx hb dL_law_769 ?_
        obtain ⟨hc, h⟩ := h
        refine va_sld hx hb hX hbl hbA hS hc dL_law_770 ?_
        refine lv_aload_n hx hb dL_law_771 rfl (lv_at hl 0 rfl) ?_
        refine lv_iload hx hb dL_law_772 (lv_at hl 4 rfl) ?_
        refine lv_bipush (v := 6) hx hb dL_law_774 (by decide) ?_
        refine lv_iadd hx hb dL_law_776 ?_
        obtain ⟨hc, h⟩ := h
        refine va_sld hx hb hX hbl hbA hS hc dL_law_777 ?_
        refine kXl (rnV C.one (ct_X5_torn l D cy x0 Aa Ab hap h) yv_X5_torn wq_763 ⟨rfl, rfl⟩ ⟨Nat.le_of_ble_eq_true rfl, Nat.le_of_ble_eq_true rfl⟩ ⟨hcR.1, hcR.2⟩ (vX C.one hPx) ⟨hPa, hPb, hPx⟩ hl.1 rfl rfl (Nat.le_of_ble_eq_true rfl) dL_law_778) hS g8 (fun r778 σa778 μa778 σb778 μb778 H locs h hPa hPb hPx hk hS => ?_)
        have hPm := keepW rM g1 hPm hk
        have hPo := keepW rO (fun _ _ => g5) hPo hk
        refine lv_pop2_2 hx hb dL_law_781 rfl ?_
        refine lv_aload_n hx hb dL_law_782 rfl (lv_at hl 2 rfl) ?_
        refine lv_aload_n hx hb dL_law_783 rfl (lv_at hl 0 rfl) ?_
        refine lv_iload hx hb dL_law_784 (lv_at hl 4 rfl) ?_
        refine lv_iconst (v := 1) hx hb dL_law_786 (by decide) ?_
        refine lv_iadd hx hb dL_law_787 ?_
        obtain ⟨hc, h⟩ := h
        refine va_sld hx hb hX hbl hbA hS hc dL_law_788 ?_
        refine lv_aload_n hx hb dL_law_789 rfl (lv_at hl 0 rfl) ?_
        refine lv_iload hx hb dL_law_790 (lv_at hl 4 rfl) ?_
        refine lv_iconst (v := 2) hx hb dL_law_792 (by decide) ?_
        refine lv_iadd hx hb dL_law_793 ?_
        obtain ⟨hc, h⟩ := h
        refine va_sld hx hb hX hbl hbA hS hc dL_law_794 ?_
        refine lv_aload_n hx hb dL_law_795 rfl (lv_at hl 0 rfl) ?_
        refine lv_iload hx hb dL_law_796 (lv_at hl 4 rfl) ?_
        refine lv_iconst (v := 3) hx hb dL_law_798 (by decide) ?_
        refine lv_iadd hx hb dL_law_799 ?_
        obtain ⟨hc, h⟩ := h
        refine va_sld hx hb hX hbl hbA hS hc dL_law_800 ?_
        refine lv_aload_n hx hb dL_law_801 rfl (lv_at hl 0 rfl) ?_
        refine lv_iload hx hb dL_law_802 (lv_at hl 4 rfl) ?_
        refine lv_iconst (v := 4) hx hb dL_law_804 (by decide) ?_
        refine lv_iadd hx hb dL_law_805 ?_
        obtain ⟨hc, h⟩ := h
        refine va_sld hx hb hX hbl hbA hS hc dL_law_806 ?_
        refine lv_aload_n hx hb dL_law_807 rfl (lv_at hl 0 rfl) ?_
        refine lv_iload hx hb dL_law_808 (lv_at hl 4 rfl) ?_
        refine lv_iconst (v := 5) hx hb dL_law_810 (by decide) ?_
        refine lv_iadd hx hb dL_law_811 ?_
        obtain ⟨hc, h⟩ := h
        refine va_sld hx hb hX hbl hbA hS hc dL_law_812 ?_
        refine lv_aload_n hx hb dL_law_813 rfl (lv_at hl 0 rfl) ?_
        refine lv_iload hx hb dL_law_814 (lv_at hl 4 rfl) ?_
        refine lv_bipush (v := 6) hx hb dL_law_816 (by decide) ?_
        refine lv_iadd hx hb dL_law_818 ?_
        obtain ⟨hc, h⟩ := h
        refine va_sld hx hb hX hbl hbA hS hc dL_law_819 ?_
        refine kWl (rnV C.one (ct_X6_torn l D cy Am hapM h) yv_X6_torn wq_1257 ⟨rfl, rfl⟩ ⟨Nat.le_of_ble_eq_true rfl, Nat.le_of_ble_eq_true rfl⟩ ⟨hcR.1, hcR.2⟩ (vM_model C.one hPm) hPm hl.1 rfl rfl (Nat.le_of_ble_eq_true rfl) dL_law_820) hS g9 (fun r820 τ820 ν820 H locs h hPm hk hS => ?_)
        have hPa := keepW rS g2 hPa hk
        have hPb := keepW rS g3 hPb hk
        have hPx := keepW (rX (x0 := x0) (Aa := Aa) (Ab := Ab)) (fun _ _ => g4) hPx hk
        have hPo := keepW rO (fun _ _ => g6) hPo hk
        refine lv_pop2_2 hx hb dL_law_823 rfl ?_
        refine lv_goto (tgt := 964) hx hb dL_law_824 (by decide) ?_
        exact wk_L_law_964 C hlt G hE hcR hc1 hk23 h hPa hPb hPx hPm hPo hS (lv_sub hl [0, 1, 2, 3, 4] rfl)
      · have h := h.2.2.2.2.2.2.2.2.2.2.2.2.2.2.2.2.2.2.2.2.2.2.2.1 (Int32.toInt_inj.mp (by rw [hr]; rfl))
        refine lv_tableIn (off := 787) (tgt := 827) hx hb dL_law_40 (by omega) (by omega) (by rw [hr]; rfl) (by decide) ?_
        refine lv_aload_n hx hb dL_law_827 rfl (lv_at hl 1 rfl) ?_
        refine lv_aload_n hx hb dL_law_828 rfl (lv_at hl 0 rfl) ?_
        refine lv_iload hx hb dL_law_829 (lv_at hl 4 rfl) ?_
        refine lv_iconst (v := 1) hx hb dL_law_831 (by decide) ?_
        refine lv_iadd hx hb dL_law_832 ?_
        obtain ⟨hc, h⟩ := h
        refine va_sld hx hb hX hbl hbA hS hc dL_law_833 ?_
        refine lv_aload_n hx hb dL_law_834 rfl (lv_at hl 0 rfl) ?_
        refine lv_iload hx hb dL_law_835 (lv_at hl 4 rfl) ?_
        refine lv_iconst (v := 2) hx hb dL_law_837 (by decide) ?_
        refine lv_iadd hx hb dL_law_838 ?_
        obtain ⟨hc, h⟩ := h
        refine va_sld hx hb hX hbl hbA hS hc dL_law_839 ?_
        refine kXl (rnV C.one (ct_X5_history l D cy x0 Aa Ab hap h) yv_X5_history wq_778 ⟨rfl, rfl⟩ ⟨Nat.le_of_ble_eq_true rfl, Nat.le_of_ble_eq_true rfl⟩ ⟨hcR.1, hcR.2⟩ (vX C.one hPx) ⟨hPa, hPb, hPx⟩ hl.1 rfl rfl (Nat.le_of_ble_eq_true rfl) dL_law_840) hS g8 (fun r840 σa840 μa840 σb840 μb840 H locs h hPa hPb hPx hk hS => ?_)
        have hPm := keepW rM g1 hPm hk
        have hPo := keepW rO (fun _ _ => g5) hPo hk
        refine lv_pop2_2 hx hb dL_law_843 rfl ?_
        refine lv_aload_n hx hb dL_law_844 rfl (lv_at hl 2 rfl) ?_
        refine lv_aload_n hx hb dL_law_845 rfl (lv_at hl 0 rfl) ?_
        refine lv_iload hx hb dL_law_846 (lv_at hl 4 rfl) ?_
        refine lv_iconst (v := 1) hx hb dL_law_848 (by decide) ?_
        refine lv_iadd hx hb dL_law_849 ?_
        obtain ⟨hc, h⟩ := h
        refine va_sld hx hb hX hbl hbA hS hc dL_law_850 ?_
        refine lv_aload_n hx hb dL_law_851 rfl (lv_at hl 0 rfl) ?_
        refine lv_iload hx hb dL_law_852 (lv_at hl 4 rfl) ?_
        refine lv_iconst (v := 2) hx hb dL_law_854 (by decide) ?_
        refine lv_iadd hx hb dL_law_855 ?_
        obtain ⟨hc, h⟩ := h
        refine va_sld hx hb hX hbl hbA hS hc dL_law_856 ?_
        refine kWl (rnV C.one (ct_X6_history l D cy Am hapM h) yv_X6_history wq_1261 ⟨rfl, rfl⟩ ⟨Nat.le_of_ble_eq_true rfl, Nat.le_of_ble_eq_true rfl⟩ ⟨hcR.1, hcR.2⟩ (vM_model C.one hPm) hPm hl.1 rfl rfl (Nat.le_of_ble_eq_true rfl) dL_law_857) hS g9 (fun r857 τ857 ν857 H locs h hPm hk hS => ?_)
        have hPa := keepW rS g2 hPa hk
        have hPb := keepW rS g3 hPb hk
        have hPx := keepW (rX (x0 := x0) (Aa := Aa) (Ab := Ab)) (fun _ _ => g4) hPx hk
        have hPo := keepW rO (fun _ _ => g6) hPo hk
        refine lv_pop2_2 hx hb dL_law_860 rfl ?_
        refine lv_goto (tgt := 964) hx hb dL_law_861 (by decide) ?_
        exact wk_L_law_964 C hlt G hE hcR hc1 hk23 h hPa hPb hPx hPm hPo hS (lv_sub hl [0, 1, 2, 3, 4] rfl)
      · have h := h.2.2.2.2.2.2.2.2.2.2.2.2.2.2.2.2.2.2.2.2.2.2.2.2.1 (Int32.toInt_inj.mp (by rw [hr]; rfl))
        refine lv_tableIn (off := 824) (tgt := 864) hx hb dL_law_40 (by omega) (by omega) (by rw [hr]; rfl) (by decide) ?_
        refine lv_aload_n hx hb dL_law_864 rfl (lv_at hl 1 rfl) ?_
        refine lv_aload_n hx hb dL_law_865 rfl (lv_at hl 0 rfl) ?_
        refine lv_iload hx hb dL_law_866 (lv_at hl 4 rfl) ?_
        refine lv_iconst (v := 1) hx hb dL_law_868 (by decide) ?_
        refine lv_iadd hx hb dL_law_869 ?_
        obtain ⟨hc, h⟩ := h
        refine va_sld hx hb hX hbl hbA hS hc dL_law_870 ?_
        refine lv_aload_n hx hb dL_law_871 rfl (lv_at hl 0 rfl) ?_
        refine lv_iload hx hb dL_law_872 (lv_at hl 4 rfl) ?_
        refine lv_iconst (v := 2) hx hb dL_law_874 (by decide) ?_
        refine lv_iadd hx hb dL_law_875 ?_
        obtain ⟨hc, h⟩ := h
        refine va_sld hx hb hX hbl hbA hS hc dL_law_876 ?_
        refine kXi (rnV C.one (ct_X5_wears l D cy x0 Aa Ab hap h) yv_X5_wears wq_795 ⟨rfl, rfl⟩ ⟨Nat.le_of_ble_eq_true rfl, Nat.le_of_ble_eq_true rfl⟩ ⟨hcR.1, hcR.2⟩ (vX C.one hPx) ⟨hPa, hPb, hPx⟩ hl.1 rfl rfl (Nat.le_of_ble_eq_true rfl) dL_law_877) hS g8 (fun r877 σa877 μa877 σb877 μb877 H locs h hPa hPb hPx hk hS => ?_)
        have hPm := keepW rM g1 hPm hk
        have hPo := keepW rO (fun _ _ => g5) hPo hk
        refine lv_pop hx hb dL_law_880 rfl ?_
        refine lv_aload_n hx hb dL_law_881 rfl (lv_at hl 2 rfl) ?_
        refine lv_aload_n hx hb dL_law_882 rfl (lv_at hl 0 rfl) ?_
        refine lv_iload hx hb dL_law_883 (lv_at hl 4 rfl) ?_
        refine lv_iconst (v := 1) hx hb dL_law_885 (by decide) ?_
        refine lv_iadd hx hb dL_law_886 ?_
        obtain ⟨hc, h⟩ := h
        refine va_sld hx hb hX hbl hbA hS hc dL_law_887 ?_
        refine lv_aload_n hx hb dL_law_888 rfl (lv_at hl 0 rfl) ?_
        refine lv_iload hx hb dL_law_889 (lv_at hl 4 rfl) ?_
        refine lv_iconst (v := 2) hx hb dL_law_891 (by decide) ?_
        refine lv_iadd hx hb dL_law_892 ?_
        obtain ⟨hc, h⟩ := h
        refine va_sld hx hb hX hbl hbA hS hc dL_law_893 ?_
        refine kWi (rnV C.one (ct_X6_wears l D cy Am hapM h) yv_X6_wears wq_1270 ⟨rfl, rfl⟩ ⟨Nat.le_of_ble_eq_true rfl, Nat.le_of_ble_eq_true rfl⟩ ⟨hcR.1, hcR.2⟩ (vM_model C.one hPm) hPm hl.1 rfl rfl (Nat.le_of_ble_eq_true rfl) dL_law_894) hS g9 (fun r894 τ894 ν894 H locs h hPm hk hS => ?_)
        have hPa := keepW rS g2 hPa hk
        have hPb := keepW rS g3 hPb hk
        have hPx := keepW (rX (x0 := x0) (Aa := Aa) (Ab := Ab)) (fun _ _ => g4) hPx hk
        have hPo := keepW rO (fun _ _ => g6) hPo hk
        refine lv_pop hx hb dL_law_897 rfl ?_
        refine lv_goto (tgt := 964) hx hb dL_law_898 (by decide) ?_
        exact wk_L_law_964 C hlt G hE hcR hc1 hk23 h hPa hPb hPx hPm hPo hS (lv_sub hl [0, 1, 2, 3, 4] rfl)
      · have h := h.2.2.2.2.2.2.2.2.2.2.2.2.2.2.2.2.2.2.2.2.2.2.2.2.2.1 (Int32.toInt_inj.mp (by rw [hr]; rfl))
        refine lv_tableIn (off := 861) (tgt := 901) hx hb dL_law_40 (by omega) (by omega) (by rw [hr]; rfl) (by decide) ?_
        refine lv_aload_n hx hb dL_law_901 rfl (lv_at hl 1 rfl) ?_
        refine lv_aload_n hx hb dL_law_902 rfl (lv_at hl 0 rfl) ?_
        refine lv_iload hx hb dL_law_903 (lv_at hl 4 rfl) ?_
        refine lv_iconst (v := 1) hx hb dL_law_905 (by decide) ?_
        refine lv_iadd hx hb dL_law_906 ?_
        obtain ⟨hc, h⟩ := h
        refine va_sld hx hb hX hbl hbA hS hc dL_law_907 ?_
        refine kXi (rnV C.one (ct_X5_wear l D cy x0 Aa Ab hap h) yv_X5_wear wq_816 ⟨rfl, rfl⟩ ⟨Nat.le_of_ble_eq_true rfl, Nat.le_of_ble_eq_true rfl⟩ ⟨hcR.1, hcR.2⟩ (vX C.one hPx) ⟨hPa, hPb, hPx⟩ hl.1 rfl rfl (Nat.le_of_ble_eq_true rfl) dL_law_908) hS g8 (fun r908 σa908 μa908 σb908 μb908 H locs h hPa hPb hPx hk hS => ?_)
        have hPm := keepW rM g1 hPm hk
        have hPo := keepW rO (fun _ _ => g5) hPo hk
        refine lv_pop hx hb dL_law_911 rfl ?_
        refine lv_aload_n hx hb dL_law_912 rfl (lv_at hl 2 rfl) ?_
        refine lv_aload_n hx hb dL_law_913 rfl (lv_at hl 0 rfl) ?_
        refine lv_iload hx hb dL_law_914 (lv_at hl 4 rfl) ?_
        refine lv_iconst (v := 1) hx hb dL_law_916 (by decide) ?_
        refine lv_iadd hx hb dL_law_917 ?_
        obtain ⟨hc, h⟩ := h
        refine va_sld hx hb hX hbl hbA hS hc dL_law_918 ?_
        refine kWi (rnV C.one (ct_X6_wear l D cy Am hapM h) yv_X6_wear wq_1278 ⟨rfl, rfl⟩ ⟨Nat.le_of_ble_eq_true rfl, Nat.le_of_ble_eq_true rfl⟩ ⟨hcR.1, hcR.2⟩ (vM_model C.one hPm) hPm hl.1 rfl rfl (Nat.le_of_ble_eq_true rfl) dL_law_919) hS g9 (fun r919 τ919 ν919 H locs h hPm hk hS => ?_)
        have hPa := keepW rS g2 hPa hk
        have hPb := keepW rS g3 hPb hk
        have hPx := keepW (rX (x0 := x0) (Aa := Aa) (Ab := Ab)) (fun _ _ => g4) hPx hk
        have hPo := keepW rO (fun _ _ => g6) hPo hk
        refine lv_pop hx hb dL_law_922 rfl ?_
        refine lv_goto (tgt := 964) hx hb dL_law_923 (by decide) ?_
        exact wk_L_law_964 C hlt G hE hcR hc1 hk23 h hPa hPb hPx hPm hPo hS (lv_sub hl [0, 1, 2, 3, 4] rfl)
      · have h := h.2.2.2.2.2.2.2.2.2.2.2.2.2.2.2.2.2.2.2.2.2.2.2.2.2.2.1 (Int32.toInt_inj.mp (by rw [hr]; rfl))
        refine lv_tableIn (off := 886) (tgt := 926) hx hb dL_law_40 (by omega) (by omega) (by rw [hr]; rfl) (by decide) ?_
        refine lv_aload_n hx hb dL_law_926 rfl (lv_at hl 1 rfl) ?_
        refine kXl (rnV C.one (ct_X5_tags l D cy x0 Aa Ab hap h) yv_X5_tags wq_831 ⟨rfl, rfl⟩ ⟨Nat.le_of_ble_eq_true rfl, Nat.le_of_ble_eq_true rfl⟩ ⟨hcR.1, hcR.2⟩ (vX C.one hPx) ⟨hPa, hPb, hPx⟩ hl.1 rfl rfl (Nat.le_of_ble_eq_true rfl) dL_law_927) hS g8 (fun r927 σa927 μa927 σb927 μb927 H locs h hPa hPb hPx hk hS => ?_)
        have hPm := keepW rM g1 hPm hk
        have hPo := keepW rO (fun _ _ => g5) hPo hk
        refine lv_pop2_2 hx hb dL_law_930 rfl ?_
        refine lv_aload_n hx hb dL_law_931 rfl (lv_at hl 2 rfl) ?_
        refine kWl (rnV C.one (ct_X6_tags l D cy Am hapM h) yv_X6_tags wq_1296 ⟨rfl, rfl⟩ ⟨Nat.le_of_ble_eq_true rfl, Nat.le_of_ble_eq_true rfl⟩ ⟨hcR.1, hcR.2⟩ (vM_model C.one hPm) hPm hl.1 rfl rfl (Nat.le_of_ble_eq_true rfl) dL_law_932) hS g9 (fun r932 τ932 ν932 H locs h hPm hk hS => ?_)
        have hPa := keepW rS g2 hPa hk
        have hPb := keepW rS g3 hPb hk
        have hPx := keepW (rX (x0 := x0) (Aa := Aa) (Ab := Ab)) (fun _ _ => g4) hPx hk
        have hPo := keepW rO (fun _ _ => g6) hPo hk
        refine lv_pop2_2 hx hb dL_law_935 rfl ?_
        refine lv_goto (tgt := 964) hx hb dL_law_936 (by decide) ?_
        exact wk_L_law_964 C hlt G hE hcR hc1 hk23 h hPa hPb hPx hPm hPo hS (lv_sub hl [0, 1, 2, 3, 4] rfl)
      · have h := h.2.2.2.2.2.2.2.2.2.2.2.2.2.2.2.2.2.2.2.2.2.2.2.2.2.2.2 (Int32.toInt_inj.mp (by rw [hr]; rfl))
        refine lv_tableIn (off := 899) (tgt := 939) hx hb dL_law_40 (by omega) (by omega) (by rw [hr]; rfl) (by decide) ?_
        refine lv_aload_n hx hb dL_law_939 rfl (lv_at hl 1 rfl) ?_
        refine lv_aload_n hx hb dL_law_940 rfl (lv_at hl 0 rfl) ?_
        refine lv_iload hx hb dL_law_941 (lv_at hl 4 rfl) ?_
        refine lv_iconst (v := 1) hx hb dL_law_943 (by decide) ?_
        refine lv_iadd hx hb dL_law_944 ?_
        obtain ⟨hc, h⟩ := h
        refine va_sld hx hb hX hbl hbA hS hc dL_law_945 ?_
        refine kXi (rnV C.one (ct_X5_count l D cy x0 Aa Ab hap h) yv_X5_count wq_836 ⟨rfl, rfl⟩ ⟨Nat.le_of_ble_eq_true rfl, Nat.le_of_ble_eq_true rfl⟩ ⟨hcR.1, hcR.2⟩ (vX C.one hPx) ⟨hPa, hPb, hPx⟩ hl.1 rfl rfl (Nat.le_of_ble_eq_true rfl) dL_law_946) hS g8 (fun r946 σa946 μa946 σb946 μb946 H locs h hPa hPb hPx hk hS => ?_)
        have hPm := keepW rM g1 hPm hk
        have hPo := keepW rO (fun _ _ => g5) hPo hk
        refine lv_pop hx hb dL_law_949 rfl ?_
        refine lv_aload_n hx hb dL_law_950 rfl (lv_at hl 2 rfl) ?_
        refine lv_aload_n hx hb dL_law_951 rfl (lv_at hl 0 rfl) ?_
        refine lv_iload hx hb dL_law_952 (lv_at hl 4 rfl) ?_
        refine lv_iconst (v := 1) hx hb dL_law_954 (by decide) ?_
        refine lv_iadd hx hb dL_law_955 ?_
        obtain ⟨hc, h⟩ := h
        refine va_sld hx hb hX hbl hbA hS hc dL_law_956 ?_
        refine kWi (rnV C.one (ct_X6_count l D cy Am hapM h) yv_X6_count wq_1300 ⟨rfl, rfl⟩ ⟨Nat.le_of_ble_eq_true rfl, Nat.le_of_ble_eq_true rfl⟩ ⟨hcR.1, hcR.2⟩ (vM_model C.one hPm) hPm hl.1 rfl rfl (Nat.le_of_ble_eq_true rfl) dL_law_957) hS g9 (fun r957 τ957 ν957 H locs h hPm hk hS => ?_)
        have hPa := keepW rS g2 hPa hk
        have hPb := keepW rS g3 hPb hk
        have hPx := keepW (rX (x0 := x0) (Aa := Aa) (Ab := Ab)) (fun _ _ => g4) hPx hk
        have hPo := keepW rO (fun _ _ => g6) hPo hk
        refine lv_pop hx hb dL_law_960 rfl ?_
        refine lv_goto (tgt := 964) hx hb dL_law_961 (by decide) ?_
        exact wk_L_law_964 C hlt G hE hcR hc1 hk23 h hPa hPb hPx hPm hPo hS (lv_sub hl [0, 1, 2, 3, 4] rfl)
