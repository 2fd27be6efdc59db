/-! the mean of the loans of a day -/
def mQd (post : UInt64 → VS → Prop) (G : GG) (ks : List KY) (ad : AD) (sz : Nat) : Array Value → State → Outcome → State → Prop := va_Qd post (mB G ks ad) (mA ks ad sz)
theorem g_metD {l : Launch} {y : MethodName} {own : String} {cc : ByteArray} {maxL : Nat} {ret : Option FieldType} {rm : Room} {av : List Value} {G : GG} {ks : List KY} {ad : AD} {V : VS} {sz mc ms : Nat} {Qc : Array Value → State → Outcome → State → Prop}
    (hy : plainName y.cls = true) (hyo : y.cls = own) (hav : (lg_sl av).length ≤ maxL)
    (body : ∀ (p : Program) (e : Env) (s : State) (m : MethodId) (args : Array Value) (below : List Frame) (meth : Method) (c : Code) (ls : Array Slot), CX p s m args c cc maxL own G (mA ks ad sz) → s.heap.size = sz → meth.sig.returnType = ret → meth.locks = false → meth.name = y.name → ST G ks ad V (mA ks ad sz) s.heap s.heap [] → args = av.toArray → lv_has ls maxL (lv_args 0 av) → s.drawn.sameBut s.drawn lw_cs →
      W p l e rm s m args below meth c s.heap [] 0 0 (MQD lw_cs below Qc args s mc ms (mA ks ad sz)) (F0 m 0 ls [])) : MetD lw_cs l y (ws_ y cc maxL ret) rm (mPc av G ks ad V sz) Qc mc ms (mA ks ad sz) := by
  refine MetD.ofW (cc := cc) (maxL := maxL) (ret := ret) hy rfl ?_
  intro p e s m args below meth c s₁ B hml hv hd0
  obtain ⟨rfl, hsz, hP, hK, hZ, hD0⟩ := hv
  have hts := atoms_spec (ws := ws_ y cc maxL ret) B.pre
  have hown : s.vm.findClass own = some m.cls := by rw [← hyo]; exact findClass_of_methodNamed B.named
  have hin : meth.name = y.name := (name_of_methodNamed B.named B.method).1
  have hl := lv_entry av (n := maxL) hav
  rw [lg_entry_eq]
  generalize (lg_sl av ++ List.replicate (maxL - (lg_sl av).length) Slot.unset).toArray = ls at hl ⊢
  exact body p e s m _ below meth c ls ⟨B.exec, B.bytes, hml, hown, fun w hw => hts w (List.mem_cons_of_mem _ hw), hK, hZ⟩ hsz B.returns B.notSynchronized hin ⟨hP, va_S.rf, hD0.mA, fun q hq => Or.inr (by rw [← hsz]; exact hq)⟩ rfl hl hd0
theorem g_dret {p : Program} {l : Launch} {e : Env} {R : Room} {s : State} {m : MethodId} {args : Array Value} {below : List Frame} {meth : Method} {c : Code} {H : Heap} {locs : List Loc} {cells slots : Nat} {cc : ByteArray} {pc nL sz : Nat} {own : String} {ls : Array Slot} {G : GG} {ks : List KY} {ad : AD} {V : VS} {post : UInt64 → VS → Prop} {v : UInt64} {d1 : Drawn} (hd1 : s.drawn.sameBut d1 lw_cs) (hC : CX p s m args c cc nL own G (mA ks ad sz)) (hr : meth.sig.returnType = some .double) (hlk : meth.locks = false) (hS : ST G ks ad V (mA ks ad sz) s.heap H locs) (hp : post v V) (hd : decode cc pc = .ok (.dreturn, 1)) :
    W p l e R (s.setDrawn d1) m args below meth c H locs cells slots (MQD lw_cs below (mQd post G ks ad sz) args s cells slots (mA ks ad sz)) (F0 m pc ls [.double v]) := by
  refine W.endD hd1 ?_
  exact W.dret hC.1 hC.2.1 hr (fun t ht _ => ⟨⟨v, V, rfl, hp, by show va_P G.1 vwCl (pic G ks ad V) t.heap; rw [ht]; exact hS.1⟩, hS.2.1.F ht⟩) hS.2.1.2.2 hd hlk
def wp_X8_daily (ks : List KY) (V : VS) (post : UInt64 → VS → Prop) : Prop := (0, 0, 0) ∈ ks ∧ (1, 0, 0) ∈ ks ∧ (¬ 0 < V 1 0 0 7 0 → post FP.dconst0 V) ∧ (0 < V 1 0 0 7 0 → wp_X7_loansOfAll ks 0 V (fun r V1 => ∀ d : UInt64, alike64 d (FP.ddiv (FP.i2d r) (FP.i2d (V1 1 0 0 7 0))) = true → post d V1))
set_option maxHeartbeats 4000000 in
set_option maxRecDepth 100000 in
theorem c_X8_daily (l : Launch) (G : GG) (ks : List KY) (ad : AD) (V : VS) (post : UInt64 → VS → Prop) (h : wp_X8_daily ks V post) (sz : Nat) : MetD lw_cs l yX8_daily (ws_ yX8_daily cX8_daily 1 (some .double)) ({ frames := 4, cells := 0, slots := 0, locals := 86 }) (mPc [.ref (ad 0 0 0)] G ks ad V sz) (mQd post G ks ad sz) 0 0 (mA ks ad sz) := by
  refine g_metD (own := RX8) (by decide) rfl (Nat.le_of_ble_eq_true rfl) ?_
  intro p e s m args below meth c ls hC hsz hr hlk hin hS ha hl hd0
  have hl : lv_has ls 1 [(0, .ref (ad 0 0 0))] := hl
  obtain ⟨hk1, hk2, h0, h1⟩ := h
  refine lv_aload_n hC.1 hC.2.1 dX8_daily_0 rfl (lv_at hl 0 rfl) ?_
  refine gf_0_0 hC hS hk1 wq_168 dX8_daily_1 ?_
  refine gn_1_7 hC hS hk2 wq_147 dX8_daily_4 ?_
  refine lv_if_gt (tgt := 12) hC.1 hC.2.1 dX8_daily_7 (by decide) (fun c1 => ?_) (fun c1 => ?_)
  · have h := h1 c1
    refine lv_aload_n hC.1 hC.2.1 dX8_daily_12 rfl (lv_at hl 0 rfl) ?_
    refine gf_0_0 hC hS hk1 wq_168 dX8_daily_13 ?_
    refine g_calli0 hS (g_runV (n := 0) (rest := []) (As := []) (C := RX7) (T := TX7) (N := 9) hC hS hk2 rfl rfl (c_X7_loansOfAll l G ks ad 0 V _ h _) (gI wq_179 wq_180 wq_181 wq_40 wq_182) rfl ⟨⟨by decide +kernel, by decide +kernel, by decide +kernel⟩, rfl, rfl, Nat.le_of_ble_eq_true rfl, Nat.le_of_ble_eq_true rfl⟩ rfl hl rfl (Nat.le_of_ble_eq_true rfl) dX8_daily_16 ⟨Nat.le_of_ble_eq_true rfl, Nat.le_of_ble_eq_true rfl⟩) (fun r V1 H locs h hS => ?_)
    refine lv_i2d hC.1 hC.2.1 dX8_daily_19 ?_
    refine lv_aload_n hC.1 hC.2.1 dX8_daily_20 rfl (lv_at hl 0 rfl) ?_
    refine gf_0_0 hC hS hk1 wq_168 dX8_daily_21 ?_
    refine gn_1_7 hC hS hk2 wq_147 dX8_daily_24 ?_
    refine lv_i2d hC.1 hC.2.1 dX8_daily_27 ?_
    refine lv_ddiv_any (d0 := s.drawn) hd0 lw_bits hC.1 hC.2.1 dX8_daily_28 (fun r2 d1 hal hd1 => ?_)
    exact g_dret hd1 hC hr hlk hS (h r2 hal) dX8_daily_29
  · refine lv_dconst0 hC.1 hC.2.1 dX8_daily_10 ?_
    exact g_dret (d1 := s.drawn) hd0 hC hr hlk hS (h0 c1) dX8_daily_11
def wp_X10_daily (ks : List KY) (V : VS) (post : UInt64 → VS → Prop) : Prop := (15, 0, 0) ∈ ks ∧ (16, 0, 0) ∈ ks ∧ ∀ V1 : VS, V1 = vup V 15 0 0 0 0 0 → (V1 16 0 0 0 0 = 0 → post FP.dconst0 V1) ∧ (¬ V1 16 0 0 0 0 = 0 → ∀ d : UInt64, alike64 d (FP.ddiv (FP.i2d (V1 16 0 0 2 0)) (FP.i2d (V1 16 0 0 0 0))) = true → post d V1)
set_option maxHeartbeats 4000000 in
set_option maxRecDepth 100000 in
theorem c_X10_daily (l : Launch) (G : GG) (ks : List KY) (ad : AD) (V : VS) (post : UInt64 → VS → Prop) (h : wp_X10_daily ks V post) (sz : Nat) : MetD lw_cs l yX10_daily (ws_ yX10_daily cX10_daily 1 (some .double)) ({ frames := 0, cells := 0, slots := 0, locals := 0 }) (mPc [.ref (ad 15 0 0)] G ks ad V sz) (mQd post G ks ad sz) 0 0 (mA ks ad sz) := by
  refine g_metD (own := RX10) (by decide) rfl (Nat.le_of_ble_eq_true rfl) ?_
  intro p e s m args below meth c ls hC hsz hr hlk hin hS ha hl hd0
  have hl : lv_has ls 1 [(0, .ref (ad 15 0 0))] := hl
  obtain ⟨hk1, hk2, h⟩ := h
  refine lv_aload_n hC.1 hC.2.1 dX10_daily_0 rfl (lv_at hl 0 rfl) ?_
  refine lv_iconst (v := 0) hC.1 hC.2.1 dX10_daily_1 (by decide) ?_
  refine pf_15_0 hC hS hk1 wq_1044 dX10_daily_2 (fun H locs hS => ?_)
  obtain ⟨V1, eV1⟩ : ∃ z : VS, z = vup V 15 0 0 0 0 0 := ⟨_, rfl⟩
  rw [← eV1] at hS
  obtain ⟨h0, h1⟩ := h V1 eV1
  refine lv_aload_n hC.1 hC.2.1 dX10_daily_5 rfl (lv_at hl 0 rfl) ?_
  refine gf_15_11 hC hS hk1 wq_1065 dX10_daily_6 ?_
  refine gn_16_0 hC hS hk2 wq_977 dX10_daily_9 ?_
  refine lv_if_ne (tgt := 19) hC.1 hC.2.1 dX10_daily_12 (by decide) (fun c1 => ?_) (fun c1 => ?_)
  · have h := h1 c1
    refine lv_aload_n hC.1 hC.2.1 dX10_daily_19 rfl (lv_at hl 0 rfl) ?_
    refine gf_15_11 hC hS hk1 wq_1065 dX10_daily_20 ?_
    refine gn_16_2 hC hS hk2 wq_981 dX10_daily_23 ?_
    refine lv_i2d hC.1 hC.2.1 dX10_daily_26 ?_
    refine lv_aload_n hC.1 hC.2.1 dX10_daily_27 rfl (lv_at hl 0 rfl) ?_
    refine gf_15_11 hC hS hk1 wq_1065 dX10_daily_28 ?_
    refine gn_16_0 hC hS hk2 wq_977 dX10_daily_31 ?_
    refine lv_i2d hC.1 hC.2.1 dX10_daily_34 ?_
    refine lv_ddiv_any (d0 := s.drawn) hd0 lw_bits hC.1 hC.2.1 dX10_daily_35 (fun r2 d1 hal hd1 => ?_)
    exact g_dret hd1 hC hr hlk hS (h r2 hal) dX10_daily_36
  · refine lv_dconst0 hC.1 hC.2.1 dX10_daily_15 ?_
    refine lv_goto (tgt := 36) hC.1 hC.2.1 dX10_daily_16 (by decide) ?_
    exact g_dret (d1 := s.drawn) hd0 hC hr hlk hS (h0 c1) dX10_daily_36
