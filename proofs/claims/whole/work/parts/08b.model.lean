def wp_X10_thrown (ks : List KY) (V : VS) (post : Int32 → VS → Prop) : Prop := ((15, 0, 0) ∈ ks ∧ post (V 15 0 0 0 0) V)
set_option maxHeartbeats 4000000 in
set_option maxRecDepth 100000 in
theorem c_X10_thrown (l : Launch) (G : GG) (ks : List KY) (ad : AD) (V : VS) (post : Int32 → VS → Prop) (h : wp_X10_thrown ks V post) (sz : Nat) : Met l yX10_thrown (ws_ yX10_thrown cX10_thrown 1 (some .int)) ({ frames := 0, cells := 0, slots := 0, locals := 0 }) (mPc [.ref (ad 15 0 0)] G ks ad V sz) (mQi post G ks ad sz) 0 0 (mA ks ad sz) := by
  refine g_met (own := RX10) (by decide) rfl (Nat.le_of_ble_eq_true rfl) ?_
  intro p e s m args below meth c ls hC hsz hr hlk hin hS ha hl
  have hl : lv_has ls 1 [(0, .ref (ad 15 0 0))] := hl
  unfold wp_X10_thrown at h
  refine lv_aload_n hC.1 hC.2.1 dX10_thrown_0 rfl (lv_at hl 0 rfl) ?_
  obtain ⟨hk1, h⟩ := h
  refine gf_15_0 hC hS hk1 wq_1044 dX10_thrown_1 ?_
  exact g_iret hC hr hlk hS h dX10_thrown_4
def wp_X10_no (ks : List KY) (a1 : Int32) (V : VS) (post : Int32 → VS → Prop) : Prop := ((15, 0, 0) ∈ ks ∧ ∀ V2 : VS, V2 = vup V 15 0 0 0 0 a1 → post 0 V2)
set_option maxHeartbeats 4000000 in
set_option maxRecDepth 100000 in
theorem c_X10_no (l : Launch) (G : GG) (ks : List KY) (ad : AD) (a1 : Int32) (V : VS) (post : Int32 → VS → Prop) (h : wp_X10_no ks a1 V post) (sz : Nat) : Met l yX10_no (ws_ yX10_no cX10_no 2 (some .int)) ({ frames := 0, cells := 0, slots := 0, locals := 0 }) (mPc [.ref (ad 15 0 0), .int a1] G ks ad V sz) (mQi post G ks ad sz) 0 0 (mA ks ad sz) := by
  refine g_met (own := RX10) (by decide) rfl (Nat.le_of_ble_eq_true rfl) ?_
  intro p e s m args below meth c ls hC hsz hr hlk hin hS ha hl
  have hl : lv_has ls 2 [(0, .ref (ad 15 0 0)), (1, .int a1)] := hl
  unfold wp_X10_no at h
  refine lv_aload_n hC.1 hC.2.1 dX10_no_0 rfl (lv_at hl 0 rfl) ?_
  refine lv_iload_n hC.1 hC.2.1 dX10_no_1 rfl (lv_at hl 1 rfl) ?_
  obtain ⟨hk1, h⟩ := h
  refine pf_15_0 hC hS hk1 wq_1044 dX10_no_2 (fun H locs hS => ?_)
  obtain ⟨V2, eV2⟩ : ∃ z : VS, z = vup V 15 0 0 0 0 a1 := ⟨_, rfl⟩
  rw [← eV2] at hS
  have h := h V2 eV2
  refine lv_iconst (v := 0) hC.1 hC.2.1 dX10_no_5 (by decide) ?_
  exact g_iret hC hr hlk hS h dX10_no_6
def wp_X10_isIn (ks : List KY) (a0 : Int32) (a1 : Int32) (a2 : Int32) (V : VS) (post : Int32 → VS → Prop) : Prop := ((a0 < a1 → (post 0 V)) ∧ (¬ (a0 < a1) → ((a2 < a0 → (post 0 V)) ∧ (¬ (a2 < a0) → (post 1 V)))))
set_option maxHeartbeats 4000000 in
set_option maxRecDepth 100000 in
theorem c_X10_isIn (l : Launch) (G : GG) (ks : List KY) (ad : AD) (a0 : Int32) (a1 : Int32) (a2 : Int32) (V : VS) (post : Int32 → VS → Prop) (h : wp_X10_isIn ks a0 a1 a2 V post) (sz : Nat) : Met l yX10_isIn (ws_ yX10_isIn cX10_isIn 3 (some .boolean)) ({ frames := 0, cells := 0, slots := 0, locals := 0 }) (mPc [.int a0, .int a1, .int a2] G ks ad V sz) (mQi post G ks ad sz) 0 0 (mA ks ad sz) := by
  refine g_met (own := RX10) (by decide) rfl (Nat.le_of_ble_eq_true rfl) ?_
  intro p e s m args below meth c ls hC hsz hr hlk hin hS ha hl
  have hl : lv_has ls 3 [(0, .int a0), (1, .int a1), (2, .int a2)] := hl
  unfold wp_X10_isIn at h
  refine lv_iload_n hC.1 hC.2.1 dX10_isIn_0 rfl (lv_at hl 0 rfl) ?_
  refine lv_iload_n hC.1 hC.2.1 dX10_isIn_1 rfl (lv_at hl 1 rfl) ?_
  refine lv_icmp_lt (tgt := 14) hC.1 hC.2.1 dX10_isIn_2 (by decide) (fun c2 => ?_) (fun c2 => ?_)
  · have h := h.1 c2
    refine lv_iconst (v := 0) hC.1 hC.2.1 dX10_isIn_14 (by decide) ?_
    exact g_zret hC hr hlk hS (by decide) h dX10_isIn_15
  · have h := h.2 c2
    refine lv_iload_n hC.1 hC.2.1 dX10_isIn_5 rfl (lv_at hl 0 rfl) ?_
    refine lv_iload_n hC.1 hC.2.1 dX10_isIn_6 rfl (lv_at hl 2 rfl) ?_
    refine lv_icmp_gt (tgt := 14) hC.1 hC.2.1 dX10_isIn_7 (by decide) (fun c1 => ?_) (fun c1 => ?_)
    · have h := h.1 c1
      refine lv_iconst (v := 0) hC.1 hC.2.1 dX10_isIn_14 (by decide) ?_
      exact g_zret hC hr hlk hS (by decide) h dX10_isIn_15
    · have h := h.2 c1
      refine lv_iconst (v := 1) hC.1 hC.2.1 dX10_isIn_10 (by decide) ?_
      refine lv_goto (tgt := 15) hC.1 hC.2.1 dX10_isIn_11 (by decide) ?_
      exact g_zret hC hr hlk hS (by decide) h dX10_isIn_15
def wp_X10_isHalt (ks : List KY) (a1 : Int32) (V : VS) (post : Int32 → VS → Prop) : Prop := ((15, 0, 0) ∈ ks ∧ wp_X10_isIn ks a1 0 ((V 15 0 0 1 0) - 1) V (fun r3 V2 => ((r3 = 0 ∨ r3 = 1) ∧ post r3 V2)))
set_option maxHeartbeats 4000000 in
set_option maxRecDepth 100000 in
theorem c_X10_isHalt (l : Launch) (G : GG) (ks : List KY) (ad : AD) (a1 : Int32) (V : VS) (post : Int32 → VS → Prop) (h : wp_X10_isHalt ks a1 V post) (sz : Nat) : Met l yX10_isHalt (ws_ yX10_isHalt cX10_isHalt 2 (some .boolean)) ({ frames := 1, cells := 0, slots := 0, locals := 22 }) (mPc [.ref (ad 15 0 0), .int a1] G ks ad V sz) (mQi post G ks ad sz) 0 0 (mA ks ad sz) := by
  refine g_met (own := RX10) (by decide) rfl (Nat.le_of_ble_eq_true rfl) ?_
  intro p e s m args below meth c ls hC hsz hr hlk hin hS ha hl
  have hl : lv_has ls 2 [(0, .ref (ad 15 0 0)), (1, .int a1)] := hl
  unfold wp_X10_isHalt at h
  refine lv_iload_n hC.1 hC.2.1 dX10_isHalt_0 rfl (lv_at hl 1 rfl) ?_
  refine lv_iconst (v := 0) hC.1 hC.2.1 dX10_isHalt_1 (by decide) ?_
  refine lv_aload_n hC.1 hC.2.1 dX10_isHalt_2 rfl (lv_at hl 0 rfl) ?_
  obtain ⟨hk1, h⟩ := h
  refine gf_15_1 hC hS hk1 wq_1045 dX10_isHalt_3 ?_
  refine lv_iconst (v := 1) hC.1 hC.2.1 dX10_isHalt_6 (by decide) ?_
  refine lv_isub hC.1 hC.2.1 dX10_isHalt_7 ?_
  refine g_calli0 hS (g_runS (n := 3) (rest := []) (As := [.int a1, .int 0, .int ((V 15 0 0 1 0) - 1)]) hC hS (c_X10_isIn l G ks ad a1 0 ((V 15 0 0 1 0) - 1) V _ h _) (gIS wq_1114 wq_1115 wq_46 wq_1116) ⟨⟨by decide +kernel, by decide +kernel, by decide +kernel⟩, rfl, rfl, Nat.le_of_ble_eq_true rfl, Nat.le_of_ble_eq_true rfl⟩ rfl hl rfl (Nat.le_of_ble_eq_true rfl) dX10_isHalt_8 ⟨Nat.le_of_ble_eq_true rfl, Nat.le_of_ble_eq_true rfl⟩) (fun r3 V2 H locs h hS => ?_)
  exact g_zret hC hr hlk hS h.1 h.2 dX10_isHalt_11
def wp_X10_isReader (ks : List KY) (a1 : Int32) (V : VS) (post : Int32 → VS → Prop) : Prop := ((15, 0, 0) ∈ ks ∧ wp_X10_isIn ks a1 0 ((V 15 0 0 8 0) - 1) V (fun r3 V2 => ((r3 = 0 ∨ r3 = 1) ∧ post r3 V2)))
set_option maxHeartbeats 4000000 in
set_option maxRecDepth 100000 in
theorem c_X10_isReader (l : Launch) (G : GG) (ks : List KY) (ad : AD) (a1 : Int32) (V : VS) (post : Int32 → VS → Prop) (h : wp_X10_isReader ks a1 V post) (sz : Nat) : Met l yX10_isReader (ws_ yX10_isReader cX10_isReader 2 (some .boolean)) ({ frames := 1, cells := 0, slots := 0, locals := 22 }) (mPc [.ref (ad 15 0 0), .int a1] G ks ad V sz) (mQi post G ks ad sz) 0 0 (mA ks ad sz) := by
  refine g_met (own := RX10) (by decide) rfl (Nat.le_of_ble_eq_true rfl) ?_
  intro p e s m args below meth c ls hC hsz hr hlk hin hS ha hl
  have hl : lv_has ls 2 [(0, .ref (ad 15 0 0)), (1, .int a1)] := hl
  unfold wp_X10_isReader at h
  refine lv_iload_n hC.1 hC.2.1 dX10_isReader_0 rfl (lv_at hl 1 rfl) ?_
  refine lv_iconst (v := 0) hC.1 hC.2.1 dX10_isReader_1 (by decide) ?_
  refine lv_aload_n hC.1 hC.2.1 dX10_isReader_2 rfl (lv_at hl 0 rfl) ?_
  obtain ⟨hk1, h⟩ := h
  refine gf_15_8 hC hS hk1 wq_1059 dX10_isReader_3 ?_
  refine lv_iconst (v := 1) hC.1 hC.2.1 dX10_isReader_6 (by decide) ?_
  refine lv_isub hC.1 hC.2.1 dX10_isReader_7 ?_
  refine g_calli0 hS (g_runS (n := 3) (rest := []) (As := [.int a1, .int 0, .int ((V 15 0 0 8 0) - 1)]) hC hS (c_X10_isIn l G ks ad a1 0 ((V 15 0 0 8 0) - 1) V _ h _) (gIS wq_1114 wq_1115 wq_46 wq_1116) ⟨⟨by decide +kernel, by decide +kernel, by decide +kernel⟩, rfl, rfl, Nat.le_of_ble_eq_true rfl, Nat.le_of_ble_eq_true rfl⟩ rfl hl rfl (Nat.le_of_ble_eq_true rfl) dX10_isReader_8 ⟨Nat.le_of_ble_eq_true rfl, Nat.le_of_ble_eq_true rfl⟩) (fun r3 V2 H locs h hS => ?_)
  exact g_zret hC hr hlk hS h.1 h.2 dX10_isReader_11
def wp_X10_isBook (ks : List KY) (a1 : Int32) (V : VS) (post : Int32 → VS → Prop) : Prop := ((15, 0, 0) ∈ ks ∧ wp_X10_isIn ks a1 0 ((V 15 0 0 6 0) - 1) V (fun r3 V2 => ((r3 = 0 ∨ r3 = 1) ∧ post r3 V2)))
set_option maxHeartbeats 4000000 in
set_option maxRecDepth 100000 in
theorem c_X10_isBook (l : Launch) (G : GG) (ks : List KY) (ad : AD) (a1 : Int32) (V : VS) (post : Int32 → VS → Prop) (h : wp_X10_isBook ks a1 V post) (sz : Nat) : Met l yX10_isBook (ws_ yX10_isBook cX10_isBook 2 (some .boolean)) ({ frames := 1, cells := 0, slots := 0, locals := 22 }) (mPc [.ref (ad 15 0 0), .int a1] G ks ad V sz) (mQi post G ks ad sz) 0 0 (mA ks ad sz) := by
  refine g_met (own := RX10) (by decide) rfl (Nat.le_of_ble_eq_true rfl) ?_
  intro p e s m args below meth c ls hC hsz hr hlk hin hS ha hl
  have hl : lv_has ls 2 [(0, .ref (ad 15 0 0)), (1, .int a1)] := hl
  unfold wp_X10_isBook at h
  refine lv_iload_n hC.1 hC.2.1 dX10_isBook_0 rfl (lv_at hl 1 rfl) ?_
  refine lv_iconst (v := 0) hC.1 hC.2.1 dX10_isBook_1 (by decide) ?_
  refine lv_aload_n hC.1 hC.2.1 dX10_isBook_2 rfl (lv_at hl 0 rfl) ?_
  obtain ⟨hk1, h⟩ := h
  refine gf_15_6 hC hS hk1 wq_1055 dX10_isBook_3 ?_
  refine lv_iconst (v := 1) hC.1 hC.2.1 dX10_isBook_6 (by decide) ?_
  refine lv_isub hC.1 hC.2.1 dX10_isBook_7 ?_
  refine g_calli0 hS (g_runS (n := 3) (rest := []) (As := [.int a1, .int 0, .int ((V 15 0 0 6 0) - 1)]) hC hS (c_X10_isIn l G ks ad a1 0 ((V 15 0 0 6 0) - 1) V _ h _) (gIS wq_1114 wq_1115 wq_46 wq_1116) ⟨⟨by decide +kernel, by decide +kernel, by decide +kernel⟩, rfl, rfl, Nat.le_of_ble_eq_true rfl, Nat.le_of_ble_eq_true rfl⟩ rfl hl rfl (Nat.le_of_ble_eq_true rfl) dX10_isBook_8 ⟨Nat.le_of_ble_eq_true rfl, Nat.le_of_ble_eq_true rfl⟩) (fun r3 V2 H locs h hS => ?_)
  exact g_zret hC hr hlk hS h.1 h.2 dX10_isBook_11
def wp_X10_addHalt (ks : List KY) (V : VS) (post : Int32 → VS → Prop) : Prop := ((15, 0, 0) ∈ ks ∧ ∀ V2 : VS, V2 = vup V 15 0 0 0 0 0 → ((V2 15 0 0 1 0) = 8 → (wp_X10_no ks 1 V2 (fun r4 V3 => (post r4 V3)))) ∧ (¬ ((V2 15 0 0 1 0) = 8) → (∀ V5 : VS, V5 = vup V2 15 0 0 1 0 ((V2 15 0 0 1 0) + 1) → post ((V5 15 0 0 1 0) - 1) V5)))
set_option maxHeartbeats 4000000 in
set_option maxRecDepth 100000 in
theorem c_X10_addHalt (l : Launch) (G : GG) (ks : List KY) (ad : AD) (V : VS) (post : Int32 → VS → Prop) (h : wp_X10_addHalt ks V post) (sz : Nat) : Met l yX10_addHalt (ws_ yX10_addHalt cX10_addHalt 1 (some .int)) ({ frames := 1, cells := 0, slots := 0, locals := 21 }) (mPc [.ref (ad 15 0 0)] G ks ad V sz) (mQi post G ks ad sz) 0 0 (mA ks ad sz) := by
  refine g_met (own := RX10) (by decide) rfl (Nat.le_of_ble_eq_true rfl) ?_
  intro p e s m args below meth c ls hC hsz hr hlk hin hS ha hl
  have hl : lv_has ls 1 [(0, .ref (ad 15 0 0))] := hl
  unfold wp_X10_addHalt at h
  refine lv_aload_n hC.1 hC.2.1 dX10_addHalt_0 rfl (lv_at hl 0 rfl) ?_
  refine lv_iconst (v := 0) hC.1 hC.2.1 dX10_addHalt_1 (by decide) ?_
  obtain ⟨hk1, h⟩ := h
  refine pf_15_0 hC hS hk1 wq_1044 dX10_addHalt_2 (fun H locs hS => ?_)
  obtain ⟨V2, eV2⟩ : ∃ z : VS, z = vup V 15 0 0 0 0 0 := ⟨_, rfl⟩
  rw [← eV2] at hS
  have h := h V2 eV2
  refine lv_aload_n hC.1 hC.2.1 dX10_addHalt_5 rfl (lv_at hl 0 rfl) ?_
  refine gf_15_1 hC hS hk1 wq_1045 dX10_addHalt_6 ?_
  refine lv_bipush (v := 8) hC.1 hC.2.1 dX10_addHalt_9 (by decide) ?_
  refine lv_icmp_ne (tgt := 20) hC.1 hC.2.1 dX10_addHalt_11 (by decide) (fun c6 => ?_) (fun c6 => ?_)
  · have h := h.2 c6
    refine lv_aload_n hC.1 hC.2.1 dX10_addHalt_20 rfl (lv_at hl 0 rfl) ?_
    refine lv_dup hC.1 hC.2.1 dX10_addHalt_21 rfl ?_
    refine gf_15_1 hC hS hk1 wq_1045 dX10_addHalt_22 ?_
    refine lv_iconst (v := 1) hC.1 hC.2.1 dX10_addHalt_25 (by decide) ?_
    refine lv_iadd hC.1 hC.2.1 dX10_addHalt_26 ?_
    refine pf_15_1 hC hS hk1 wq_1045 dX10_addHalt_27 (fun H locs hS => ?_)
    obtain ⟨V5, eV5⟩ : ∃ z : VS, z = vup V2 15 0 0 1 0 ((V2 15 0 0 1 0) + 1) := ⟨_, rfl⟩
    rw [← eV5] at hS
    have h := h V5 eV5
    refine lv_aload_n hC.1 hC.2.1 dX10_addHalt_30 rfl (lv_at hl 0 rfl) ?_
    refine gf_15_1 hC hS hk1 wq_1045 dX10_addHalt_31 ?_
    refine lv_iconst (v := 1) hC.1 hC.2.1 dX10_addHalt_34 (by decide) ?_
    refine lv_isub hC.1 hC.2.1 dX10_addHalt_35 ?_
    exact g_iret hC hr hlk hS h dX10_addHalt_36
  · have h := h.1 c6
    refine lv_aload_n hC.1 hC.2.1 dX10_addHalt_14 rfl (lv_at hl 0 rfl) ?_
    refine lv_iconst (v := 1) hC.1 hC.2.1 dX10_addHalt_15 (by decide) ?_
    refine g_calli0 hS (g_runV (n := 1) (rest := []) (As := [.int 1]) (C := RX10) (T := TX10) (N := 13) hC hS hk1 rfl rfl (c_X10_no l G ks ad 1 V2 _ h _) (gI wq_1102 wq_1104 wq_23 wq_46 wq_1105) rfl ⟨⟨by decide +kernel, by decide +kernel, by decide +kernel⟩, rfl, rfl, Nat.le_of_ble_eq_true rfl, Nat.le_of_ble_eq_true rfl⟩ rfl hl rfl (Nat.le_of_ble_eq_true rfl) dX10_addHalt_16 ⟨Nat.le_of_ble_eq_true rfl, Nat.le_of_ble_eq_true rfl⟩) (fun r4 V3 H locs h hS => ?_)
    exact g_iret hC hr hlk hS h dX10_addHalt_19
def wp_X10_setRain (ks : List KY) (a1 : Int32) (a2 : Int32) (V : VS) (post : Int32 → VS → Prop) : Prop := ((15, 0, 0) ∈ ks ∧ ∀ V2 : VS, V2 = vup V 15 0 0 0 0 0 → wp_X10_isIn ks a1 0 6 V2 (fun r4 V3 => ((r4 = 0 → (wp_X10_no ks 1 V3 (fun r6 V5 => (post r6 V5)))) ∧ (¬ (r4 = 0) → (wp_X10_isIn ks a2 0 9 V3 (fun r8 V7 => ((r8 = 0 → (wp_X10_no ks 2 V7 (fun r10 V9 => (post r10 V9)))) ∧ (¬ (r8 = 0) → ((18, 0, 0) ∈ ks ∧ vp_in a1 7 ∧ ∀ y13 : Int32, y13 = V7 18 0 0 0 a1.toNatClampNeg → ∀ V14 : VS, V14 = vup V7 18 0 0 0 a1.toNatClampNeg a2 → post y13 V14)))))))))
set_option maxHeartbeats 4000000 in
set_option maxRecDepth 100000 in
theorem c_X10_setRain (l : Launch) (G : GG) (ks : List KY) (ad : AD) (a1 : Int32) (a2 : Int32) (V : VS) (post : Int32 → VS → Prop) (h : wp_X10_setRain ks a1 a2 V post) (sz : Nat) : Met l yX10_setRain (ws_ yX10_setRain cX10_setRain 4 (some .int)) ({ frames := 1, cells := 0, slots := 0, locals := 22 }) (mPc [.ref (ad 15 0 0), .int a1, .int a2] G ks ad V sz) (mQi post G ks ad sz) 0 0 (mA ks ad sz) := by
  refine g_met (own := RX10) (by decide) rfl (Nat.le_of_ble_eq_true rfl) ?_
  intro p e s m args below meth c ls hC hsz hr hlk hin hS ha hl
  have hl : lv_has ls 4 [(0, .ref (ad 15 0 0)), (1, .int a1), (2, .int a2)] := hl
  unfold wp_X10_setRain at h
  refine lv_aload_n hC.1 hC.2.1 dX10_setRain_0 rfl (lv_at hl 0 rfl) ?_
  refine lv_iconst (v := 0) hC.1 hC.2.1 dX10_setRain_1 (by decide) ?_
  obtain ⟨hk1, h⟩ := h
  refine pf_15_0 hC hS hk1 wq_1044 dX10_setRain_2 (fun H locs hS => ?_)
  obtain ⟨V2, eV2⟩ : ∃ z : VS, z = vup V 15 0 0 0 0 0 := ⟨_, rfl⟩
  rw [← eV2] at hS
  have h := h V2 eV2
  refine lv_iload_n hC.1 hC.2.1 dX10_setRain_5 rfl (lv_at hl 1 rfl) ?_
  refine lv_iconst (v := 0) hC.1 hC.2.1 dX10_setRain_6 (by decide) ?_
  refine lv_bipush (v := 6) hC.1 hC.2.1 dX10_setRain_7 (by decide) ?_
  refine g_calli0 hS (g_runS (n := 3) (rest := []) (As := [.int a1, .int 0, .int 6]) hC hS (c_X10_isIn l G ks ad a1 0 6 V2 _ h _) (gIS wq_1114 wq_1115 wq_46 wq_1116) ⟨⟨by decide +kernel, by decide +kernel, by decide +kernel⟩, rfl, rfl, Nat.le_of_ble_eq_true rfl, Nat.le_of_ble_eq_true rfl⟩ rfl hl rfl (Nat.le_of_ble_eq_true rfl) dX10_setRain_9 ⟨Nat.le_of_ble_eq_true rfl, Nat.le_of_ble_eq_true rfl⟩) (fun r4 V3 H locs h hS => ?_)
  refine lv_if_ne (tgt := 21) hC.1 hC.2.1 dX10_setRain_12 (by decide) (fun c16 => ?_) (fun c16 => ?_)
  · have h := h.2 c16
    refine lv_iload_n hC.1 hC.2.1 dX10_setRain_21 rfl (lv_at hl 2 rfl) ?_
    refine lv_iconst (v := 0) hC.1 hC.2.1 dX10_setRain_22 (by decide) ?_
    refine lv_bipush (v := 9) hC.1 hC.2.1 dX10_setRain_23 (by decide) ?_
    refine g_calli0 hS (g_runS (n := 3) (rest := []) (As := [.int a2, .int 0, .int 9]) hC hS (c_X10_isIn l G ks ad a2 0 9 V3 _ h _) (gIS wq_1114 wq_1115 wq_46 wq_1116) ⟨⟨by decide +kernel, by decide +kernel, by decide +kernel⟩, rfl, rfl, Nat.le_of_ble_eq_true rfl, Nat.le_of_ble_eq_true rfl⟩ rfl hl rfl (Nat.le_of_ble_eq_true rfl) dX10_setRain_25 ⟨Nat.le_of_ble_eq_true rfl, Nat.le_of_ble_eq_true rfl⟩) (fun r8 V7 H locs h hS => ?_)
    refine lv_if_ne (tgt := 37) hC.1 hC.2.1 dX10_setRain_28 (by decide) (fun c15 => ?_) (fun c15 => ?_)
    · have h := h.2 c15
      refine lv_aload_n hC.1 hC.2.1 dX10_setRain_37 rfl (lv_at hl 0 rfl) ?_
      refine gf_15_4 hC hS hk1 wq_1051 dX10_setRain_38 ?_
      refine lv_iload_n hC.1 hC.2.1 dX10_setRain_41 rfl (lv_at hl 1 rfl) ?_
      obtain ⟨hk11, h⟩ := h
      obtain ⟨hx12, h⟩ := h
      refine g_iald hC hS hk11 (by decide) hx12 dX10_setRain_42 ?_
      refine lv_topi (fun y13 ey13 => ?_)
      have h := h y13 ey13
      refine lv_istore_n (lv' := [(3, .int y13), (0, .ref (ad 15 0 0)), (1, .int a1), (2, .int a2)]) hC.1 hC.2.1 dX10_setRain_43 rfl hl (by decide) rfl (fun ls hl => ?_)
      refine lv_aload_n hC.1 hC.2.1 dX10_setRain_44 rfl (lv_at hl 1 rfl) ?_
      refine gf_15_4 hC hS hk1 wq_1051 dX10_setRain_45 ?_
      refine lv_iload_n hC.1 hC.2.1 dX10_setRain_48 rfl (lv_at hl 2 rfl) ?_
      refine lv_iload_n hC.1 hC.2.1 dX10_setRain_49 rfl (lv_at hl 3 rfl) ?_
      refine g_iast hC hS hk11 (by decide) hx12 dX10_setRain_50 (fun H locs hS => ?_)
      obtain ⟨V14, eV14⟩ : ∃ z : VS, z = vup V7 18 0 0 0 a1.toNatClampNeg a2 := ⟨_, rfl⟩
      rw [← eV14] at hS
      have h := h V14 eV14
      refine lv_iload_n hC.1 hC.2.1 dX10_setRain_51 rfl (lv_at hl 0 rfl) ?_
      exact g_iret hC hr hlk hS h dX10_setRain_52
    · have h := h.1 c15
      refine lv_aload_n hC.1 hC.2.1 dX10_setRain_31 rfl (lv_at hl 0 rfl) ?_
      refine lv_iconst (v := 2) hC.1 hC.2.1 dX10_setRain_32 (by decide) ?_
      refine g_calli0 hS (g_runV (n := 1) (rest := []) (As := [.int 2]) (C := RX10) (T := TX10) (N := 13) hC hS hk1 rfl rfl (c_X10_no l G ks ad 2 V7 _ h _) (gI wq_1102 wq_1104 wq_23 wq_46 wq_1105) rfl ⟨⟨by decide +kernel, by decide +kernel, by decide +kernel⟩, rfl, rfl, Nat.le_of_ble_eq_true rfl, Nat.le_of_ble_eq_true rfl⟩ rfl hl rfl (Nat.le_of_ble_eq_true rfl) dX10_setRain_33 ⟨Nat.le_of_ble_eq_true rfl, Nat.le_of_ble_eq_true rfl⟩) (fun r10 V9 H locs h hS => ?_)
      exact g_iret hC hr hlk hS h dX10_setRain_36
  · have h := h.1 c16
    refine lv_aload_n hC.1 hC.2.1 dX10_setRain_15 rfl (lv_at hl 0 rfl) ?_
    refine lv_iconst (v := 1) hC.1 hC.2.1 dX10_setRain_16 (by decide) ?_
    refine g_calli0 hS (g_runV (n := 1) (rest := []) (As := [.int 1]) (C := RX10) (T := TX10) (N := 13) hC hS hk1 rfl rfl (c_X10_no l G ks ad 1 V3 _ h _) (gI wq_1102 wq_1104 wq_23 wq_46 wq_1105) rfl ⟨⟨by decide +kernel, by decide +kernel, by decide +kernel⟩, rfl, rfl, Nat.le_of_ble_eq_true rfl, Nat.le_of_ble_eq_true rfl⟩ rfl hl rfl (Nat.le_of_ble_eq_true rfl) dX10_setRain_17 ⟨Nat.le_of_ble_eq_true rfl, Nat.le_of_ble_eq_true rfl⟩) (fun r6 V5 H locs h hS => ?_)
    exact g_iret hC hr hlk hS h dX10_setRain_20
def wk_X10_setRound_95 (ks : List KY) (a1 : Int32) (a2 : Int32) (post : Int32 → VS → Prop) (B95 : Int32 → Int32 → VS → Prop) (x2 : Int32) (x4 : Int32) (x5 : Int32) (V : VS) : Prop := ((x5 ≤ 0 → ((15, 0, 0) ∈ ks ∧ ∀ V2 : VS, V2 = vup V 15 0 0 5 0 x2 → (16, 0, 0) ∈ ks ∧ post (V2 16 0 0 5 0) V2)) ∧ (¬ (x5 ≤ 0) → (∀ y4 : Int32, y4 = x4 + (-1) → (15, 0, 0) ∈ ks ∧ (16, 0, 0) ∈ ks ∧ (23, 0, 0) ∈ ks ∧ vp_in y4 8 ∧ ∀ V9 : VS, V9 = vup V 23 0 0 0 y4.toNatClampNeg ((x5 - x5 / 10 * 10) - 1) → ∀ y10 : Int32, y10 = x5 / 10 → B95 y4 y10 V9)))
def wl_X10_setRound_95 (ks : List KY) (a1 : Int32) (a2 : Int32) (post : Int32 → VS → Prop) (x2 : Int32) (x4 : Int32) (x5 : Int32) (V : VS) : Prop := ∃ J : Nat → Int32 → Int32 → VS → Prop, (∃ n, J n x4 x5 V) ∧ ∀ (n : Nat) (x4 : Int32) (x5 : Int32) (V : VS), J n x4 x5 V → wk_X10_setRound_95 ks a1 a2 post (fun x4 x5 V => ∃ n', n' < n ∧ J n' x4 x5 V) x2 x4 x5 V
def wb_X10_setRound_73 (ks : List KY) (a1 : Int32) (a2 : Int32) (post : Int32 → VS → Prop) (x1 : Int32) (x2 : Int32) (x3 : Int32) (x4 : Int32) (V : VS) : Prop := ((x3 = 0 → ((15, 0, 0) ∈ ks ∧ wp_X10_no ks 1 V (fun r14 V12 => (post r14 V12)))) ∧ (¬ (x3 = 0) → ((15, 0, 0) ∈ ks ∧ (16, 0, 0) ∈ ks ∧ ∀ V17 : VS, V17 = vup V 16 0 0 5 0 x4 → wl_X10_setRound_95 ks a1 a2 post x2 x4 x1 V17)))
def wk_X10_setRound_39 (ks : List KY) (a1 : Int32) (a2 : Int32) (post : Int32 → VS → Prop) (B39 : Int32 → Int32 → Int32 → VS → Prop) (x1 : Int32) (x2 : Int32) (x3 : Int32) (x4 : Int32) (x5 : Int32) (V : VS) : Prop := ((x5 ≤ 0 → wb_X10_setRound_73 ks a1 a2 post x1 x2 x3 x4 V) ∧ (¬ (x5 ≤ 0) → ((x3 = 0 → wb_X10_setRound_73 ks a1 a2 post x1 x2 x3 x4 V) ∧ (¬ (x3 = 0) → ((15, 0, 0) ∈ ks ∧ wp_X10_isHalt ks ((x5 - x5 / 10 * 10) - 1) V (fun r21 V19 => (∀ y22 : Int32, y22 = x4 + 1 → ∀ y23 : Int32, y23 = x5 / 10 → B39 r21 y22 y23 V19)))))))
def wl_X10_setRound_39 (ks : List KY) (a1 : Int32) (a2 : Int32) (post : Int32 → VS → Prop) (x1 : Int32) (x2 : Int32) (x3 : Int32) (x4 : Int32) (x5 : Int32) (V : VS) : Prop := ∃ J : Nat → Int32 → Int32 → Int32 → VS → Prop, (∃ n, J n x3 x4 x5 V) ∧ ∀ (n : Nat) (x3 : Int32) (x4 : Int32) (x5 : Int32) (V : VS), J n x3 x4 x5 V → wk_X10_setRound_39 ks a1 a2 post (fun x3 x4 x5 V => ∃ n', n' < n ∧ J n' x3 x4 x5 V) x1 x2 x3 x4 x5 V
def wb_X10_setRound_32 (ks : List KY) (a1 : Int32) (a2 : Int32) (post : Int32 → VS → Prop) (x1 : Int32) (x2 : Int32) (s0 : Int32) (V : VS) : Prop := (wl_X10_setRound_39 ks a1 a2 post x1 x2 s0 0 x1 V)
def wp_X10_setRound (ks : List KY) (a1 : Int32) (a2 : Int32) (V : VS) (post : Int32 → VS → Prop) : Prop := ((15, 0, 0) ∈ ks ∧ ∀ V27 : VS, V27 = vup V 15 0 0 0 0 0 → (a1 < 0 → (wb_X10_setRound_32 ks a1 a2 post a1 a2 0 V27)) ∧ (¬ (a1 < 0) → (((100000000 : Int32) ≤ a1 → (wb_X10_setRound_32 ks a1 a2 post a1 a2 0 V27)) ∧ (¬ ((100000000 : Int32) ≤ a1) → (wp_X10_isIn ks a2 10 300 V27 (fun r29 V28 => ((r29 = 0 → (wb_X10_setRound_32 ks a1 a2 post a1 a2 0 V28)) ∧ (¬ (r29 = 0) → (wb_X10_setRound_32 ks a1 a2 post a1 a2 1 V28)))))))))
set_option maxHeartbeats 4000000 in
set_option maxRecDepth 100000 in
theorem c_X10_setRound (l : Launch) (G : GG) (ks : List KY) (ad : AD) (a1 : Int32) (a2 : Int32) (V : VS) (post : Int32 → VS → Prop) (h : wp_X10_setRound ks a1 a2 V post) (sz : Nat) : Met l yX10_setRound (ws_ yX10_setRound cX10_setRound 6 (some .int)) ({ frames := 2, cells := 0, slots := 0, locals := 43 }) (mPc [.ref (ad 15 0 0), .int a1, .int a2] G ks ad V sz) (mQi post G ks ad sz) 0 0 (mA ks ad sz) := by
  refine g_met (own := RX10) (by decide) rfl (Nat.le_of_ble_eq_true rfl) ?_
  intro p e s m args below meth c ls hC hsz hr hlk hin hS ha hl
  have hl : lv_has ls 6 [(0, .ref (ad 15 0 0)), (1, .int a1), (2, .int a2)] := hl
  unfold wp_X10_setRound at h
  have kT95 : ∀ (x2 : Int32) (x4 : Int32) (x5 : Int32) (V : VS) (H : Heap) (locs : List Loc) (ls : Array Slot), wl_X10_setRound_95 ks a1 a2 post x2 x4 x5 V → ST G ks ad V (mA ks ad sz) s.heap H locs → lv_has ls 6 [(0, .ref (ad 15 0 0)), (2, .int x2), (4, .int x4), (5, .int x5)] → W p l e ({ frames := 2, cells := 0, slots := 0, locals := 43 } : Room) s m args below meth c H locs 0 0 (MQ below (mQi post G ks ad sz) args s 0 0 (mA ks ad sz)) (F0 m 95 ls []) := by
    intro x2 x4 x5 V H locs ls h hS hl
    obtain ⟨J, ⟨n, hJ⟩, hb⟩ := h
    induction n using Nat.strongRecOn generalizing x4 x5 V H locs ls with
    | _ n ih =>
      have h := hb n x4 x5 V hJ
      obtain ⟨B95, eB⟩ : ∃ z : Int32 → Int32 → VS → Prop, z = (fun x4 x5 V => ∃ n', n' < n ∧ J n' x4 x5 V) := ⟨_, rfl⟩
      rw [← eB] at h
      have kB95 : ∀ (x4 : Int32) (x5 : Int32) (V : VS) (H : Heap) (locs : List Loc) (ls : Array Slot), B95 x4 x5 V → ST G ks ad V (mA ks ad sz) s.heap H locs → lv_has ls 6 [(0, .ref (ad 15 0 0)), (2, .int x2), (4, .int x4), (5, .int x5)] → W p l e ({ frames := 2, cells := 0, slots := 0, locals := 43 } : Room) s m args below meth c H locs 0 0 (MQ below (mQi post G ks ad sz) args s 0 0 (mA ks ad sz)) (F0 m 95 ls []) := by
        intro x4 x5 V H locs ls h hS hl
        rw [eB] at h
        obtain ⟨n', hn, hJ'⟩ := h
        exact ih n' hn _ _ _ _ _ _ hS hl hJ'
      clear ih hJ hb eB
      unfold wk_X10_setRound_95 at h
      refine lv_iload hC.1 hC.2.1 dX10_setRound_95 (lv_at hl 3 rfl) ?_
      refine lv_if_le (tgt := 130) hC.1 hC.2.1 dX10_setRound_97 (by decide) (fun c11 => ?_) (fun c11 => ?_)
      · have h := h.1 c11
        refine lv_aload_n hC.1 hC.2.1 dX10_setRound_130 rfl (lv_at hl 0 rfl) ?_
        refine lv_iload_n hC.1 hC.2.1 dX10_setRound_131 rfl (lv_at hl 1 rfl) ?_
        obtain ⟨hk1, h⟩ := h
        refine pf_15_5 hC hS hk1 wq_1053 dX10_setRound_132 (fun H locs hS => ?_)
        obtain ⟨V2, eV2⟩ : ∃ z : VS, z = vup V 15 0 0 5 0 x2 := ⟨_, rfl⟩
        rw [← eV2] at hS
        have h := h V2 eV2
        refine lv_aload_n hC.1 hC.2.1 dX10_setRound_135 rfl (lv_at hl 0 rfl) ?_
        refine gf_15_11 hC hS hk1 wq_1065 dX10_setRound_136 ?_
        obtain ⟨hk3, h⟩ := h
        refine gn_16_5 hC hS hk3 wq_987 dX10_setRound_139 ?_
        exact g_iret hC hr hlk hS h dX10_setRound_142
      · have h := h.2 c11
        obtain ⟨y4, ey4⟩ : ∃ z : Int32, z = x4 + (-1) := ⟨_, rfl⟩
        have h := h y4 ey4
        refine lv_iinc (v := y4) (lv' := [(4, .int y4), (0, .ref (ad 15 0 0)), (2, .int x2), (5, .int x5)]) hC.1 hC.2.1 dX10_setRound_100 hl (k := 2) rfl (by rw [ey4]; rfl) (by decide) rfl (fun ls hl => ?_)
        refine lv_aload_n hC.1 hC.2.1 dX10_setRound_103 rfl (lv_at hl 1 rfl) ?_
        obtain ⟨hk5, h⟩ := h
        refine gf_15_11 hC hS hk5 wq_1065 dX10_setRound_104 ?_
        obtain ⟨hk6, h⟩ := h
        refine gn_16_4 hC hS hk6 wq_985 dX10_setRound_107 ?_
        refine lv_iload hC.1 hC.2.1 dX10_setRound_110 (lv_at hl 0 rfl) ?_
        refine lv_iload hC.1 hC.2.1 dX10_setRound_112 (lv_at hl 3 rfl) ?_
        refine lv_bipush (v := 10) hC.1 hC.2.1 dX10_setRound_114 (by decide) ?_
        refine lv_irem hC.1 hC.2.1 dX10_setRound_116 (by decide) ?_
        refine lv_iconst (v := 1) hC.1 hC.2.1 dX10_setRound_117 (by decide) ?_
        refine lv_isub hC.1 hC.2.1 dX10_setRound_118 ?_
        obtain ⟨hk7, h⟩ := h
        obtain ⟨hx8, h⟩ := h
        refine g_iast hC hS hk7 (by decide) hx8 dX10_setRound_119 (fun H locs hS => ?_)
        obtain ⟨V9, eV9⟩ : ∃ z : VS, z = vup V 23 0 0 0 y4.toNatClampNeg ((x5 - x5 / 10 * 10) - 1) := ⟨_, rfl⟩
        rw [← eV9] at hS
        have h := h V9 eV9
        refine lv_iload hC.1 hC.2.1 dX10_setRound_120 (lv_at hl 3 rfl) ?_
        refine lv_bipush (v := 10) hC.1 hC.2.1 dX10_setRound_122 (by decide) ?_
        refine lv_idiv hC.1 hC.2.1 dX10_setRound_124 (by decide) ?_
        refine lv_topi (fun y10 ey10 => ?_)
        have h := h y10 ey10
        refine lv_istore (lv' := [(5, .int y10), (4, .int y4), (0, .ref (ad 15 0 0)), (2, .int x2)]) hC.1 hC.2.1 dX10_setRound_125 hl (by decide) rfl (fun ls hl => ?_)
        refine lv_goto (tgt := 95) hC.1 hC.2.1 dX10_setRound_127 (by decide) ?_
        exact kB95 _ _ _ _ _ _ h hS (lv_sub hl [2, 3, 1, 0] rfl)
  have kT73 : ∀ (x1 : Int32) (x2 : Int32) (x3 : Int32) (x4 : Int32) (V : VS) (H : Heap) (locs : List Loc) (ls : Array Slot), wb_X10_setRound_73 ks a1 a2 post x1 x2 x3 x4 V → ST G ks ad V (mA ks ad sz) s.heap H locs → lv_has ls 6 [(0, .ref (ad 15 0 0)), (1, .int x1), (2, .int x2), (3, .int x3), (4, .int x4)] → W p l e ({ frames := 2, cells := 0, slots := 0, locals := 43 } : Room) s m args below meth c H locs 0 0 (MQ below (mQi post G ks ad sz) args s 0 0 (mA ks ad sz)) (F0 m 73 ls []) := by
    intro x1 x2 x3 x4 V H locs ls h hS hl
    unfold wb_X10_setRound_73 at h
    refine lv_iload_n hC.1 hC.2.1 dX10_setRound_73 rfl (lv_at hl 3 rfl) ?_
    refine lv_if_ne (tgt := 83) hC.1 hC.2.1 dX10_setRound_74 (by decide) (fun c18 => ?_) (fun c18 => ?_)
    · have h := h.2 c18
      refine lv_aload_n hC.1 hC.2.1 dX10_setRound_83 rfl (lv_at hl 0 rfl) ?_
      obtain ⟨hk15, h⟩ := h
      refine gf_15_11 hC hS hk15 wq_1065 dX10_setRound_84 ?_
      refine lv_iload hC.1 hC.2.1 dX10_setRound_87 (lv_at hl 4 rfl) ?_
      obtain ⟨hk16, h⟩ := h
      refine pn_16_5 hC hS hk16 wq_987 dX10_setRound_89 (fun H locs hS => ?_)
      obtain ⟨V17, eV17⟩ : ∃ z : VS, z = vup V 16 0 0 5 0 x4 := ⟨_, rfl⟩
      rw [← eV17] at hS
      have h := h V17 eV17
      refine lv_iload_n hC.1 hC.2.1 dX10_setRound_92 rfl (lv_at hl 1 rfl) ?_
      refine lv_istore (lv' := [(5, .int x1), (0, .ref (ad 15 0 0)), (1, .int x1), (2, .int x2), (3, .int x3), (4, .int x4)]) hC.1 hC.2.1 dX10_setRound_93 hl (by decide) rfl (fun ls hl => ?_)
      exact kT95 _ _ _ _ _ _ _ h hS (lv_sub hl [1, 3, 5, 0] rfl)
    · have h := h.1 c18
      refine lv_aload_n hC.1 hC.2.1 dX10_setRound_77 rfl (lv_at hl 0 rfl) ?_
      refine lv_iconst (v := 1) hC.1 hC.2.1 dX10_setRound_78 (by decide) ?_
      obtain ⟨hk13, h⟩ := h
      refine g_calli0 hS (g_runV (n := 1) (rest := []) (As := [.int 1]) (C := RX10) (T := TX10) (N := 13) hC hS hk13 rfl rfl (c_X10_no l G ks ad 1 V _ h _) (gI wq_1102 wq_1104 wq_23 wq_46 wq_1105) rfl ⟨⟨by decide +kernel, by decide +kernel, by decide +kernel⟩, rfl, rfl, Nat.le_of_ble_eq_true rfl, Nat.le_of_ble_eq_true rfl⟩ rfl hl rfl (Nat.le_of_ble_eq_true rfl) dX10_setRound_79 ⟨Nat.le_of_ble_eq_true rfl, Nat.le_of_ble_eq_true rfl⟩) (fun r14 V12 H locs h hS => ?_)
      exact g_iret hC hr hlk hS h dX10_setRound_82
  have kT39 : ∀ (x1 : Int32) (x2 : Int32) (x3 : Int32) (x4 : Int32) (x5 : Int32) (V : VS) (H : Heap) (locs : List Loc) (ls : Array Slot), wl_X10_setRound_39 ks a1 a2 post x1 x2 x3 x4 x5 V → ST G ks ad V (mA ks ad sz) s.heap H locs → lv_has ls 6 [(0, .ref (ad 15 0 0)), (1, .int x1), (2, .int x2), (3, .int x3), (4, .int x4), (5, .int x5)] → W p l e ({ frames := 2, cells := 0, slots := 0, locals := 43 } : Room) s m args below meth c H locs 0 0 (MQ below (mQi post G ks ad sz) args s 0 0 (mA ks ad sz)) (F0 m 39 ls []) := by
    intro x1 x2 x3 x4 x5 V H locs ls h hS hl
    obtain ⟨J, ⟨n, hJ⟩, hb⟩ := h
    induction n using Nat.strongRecOn generalizing x3 x4 x5 V H locs ls with
    | _ n ih =>
      have h := hb n x3 x4 x5 V hJ
      obtain ⟨B39, eB⟩ : ∃ z : Int32 → Int32 → Int32 → VS → Prop, z = (fun x3 x4 x5 V => ∃ n', n' < n ∧ J n' x3 x4 x5 V) := ⟨_, rfl⟩
      rw [← eB] at h
      have kB39 : ∀ (x3 : Int32) (x4 : Int32) (x5 : Int32) (V : VS) (H : Heap) (locs : List Loc) (ls : Array Slot), B39 x3 x4 x5 V → ST G ks ad V (mA ks ad sz) s.heap H locs → lv_has ls 6 [(0, .ref (ad 15 0 0)), (1, .int x1), (2, .int x2), (3, .int x3), (4, .int x4), (5, .int x5)] → W p l e ({ frames := 2, cells := 0, slots := 0, locals := 43 } : Room) s m args below meth c H locs 0 0 (MQ below (mQi post G ks ad sz) args s 0 0 (mA ks ad sz)) (F0 m 39 ls []) := by
        intro x3 x4 x5 V H locs ls h hS hl
        rw [eB] at h
        obtain ⟨n', hn, hJ'⟩ := h
        exact ih n' hn _ _ _ _ _ _ _ hS hl hJ'
      clear ih hJ hb eB
      unfold wk_X10_setRound_39 at h
      refine lv_iload hC.1 hC.2.1 dX10_setRound_39 (lv_at hl 5 rfl) ?_
      refine lv_if_le (tgt := 73) hC.1 hC.2.1 dX10_setRound_41 (by decide) (fun c25 => ?_) (fun c25 => ?_)
      · have h := h.1 c25
        exact kT73 _ _ _ _ _ _ _ _ h hS (lv_sub hl [0, 1, 2, 3, 4] rfl)
      · have h := h.2 c25
        refine lv_iload_n hC.1 hC.2.1 dX10_setRound_44 rfl (lv_at hl 3 rfl) ?_
        refine lv_if_eq (tgt := 73) hC.1 hC.2.1 dX10_setRound_45 (by decide) (fun c24 => ?_) (fun c24 => ?_)
        · have h := h.1 c24
          exact kT73 _ _ _ _ _ _ _ _ h hS (lv_sub hl [0, 1, 2, 3, 4] rfl)
        · have h := h.2 c24
          refine lv_aload_n hC.1 hC.2.1 dX10_setRound_48 rfl (lv_at hl 0 rfl) ?_
          refine lv_iload hC.1 hC.2.1 dX10_setRound_49 (lv_at hl 5 rfl) ?_
          refine lv_bipush (v := 10) hC.1 hC.2.1 dX10_setRound_51 (by decide) ?_
          refine lv_irem hC.1 hC.2.1 dX10_setRound_53 (by decide) ?_
          refine lv_iconst (v := 1) hC.1 hC.2.1 dX10_setRound_54 (by decide) ?_
          refine lv_isub hC.1 hC.2.1 dX10_setRound_55 ?_
          obtain ⟨hk20, h⟩ := h
          refine g_calli0 hS (g_runV (n := 1) (rest := []) (As := [.int ((x5 - x5 / 10 * 10) - 1)]) (C := RX10) (T := TX10) (N := 13) hC hS hk20 rfl rfl (c_X10_isHalt l G ks ad ((x5 - x5 / 10 * 10) - 1) V _ h _) (gI wq_1110 wq_1112 wq_24 wq_46 wq_1113) rfl ⟨⟨by decide +kernel, by decide +kernel, by decide +kernel⟩, rfl, rfl, Nat.le_of_ble_eq_true rfl, Nat.le_of_ble_eq_true rfl⟩ rfl hl rfl (Nat.le_of_ble_eq_true rfl) dX10_setRound_56 ⟨Nat.le_of_ble_eq_true rfl, Nat.le_of_ble_eq_true rfl⟩) (fun r21 V19 H locs h hS => ?_)
          refine lv_istore_n (lv' := [(3, .int r21), (0, .ref (ad 15 0 0)), (1, .int x1), (2, .int x2), (4, .int x4), (5, .int x5)]) hC.1 hC.2.1 dX10_setRound_59 rfl hl (by decide) rfl (fun ls hl => ?_)
          obtain ⟨y22, ey22⟩ : ∃ z : Int32, z = x4 + 1 := ⟨_, rfl⟩
          have h := h y22 ey22
          refine lv_iinc (v := y22) (lv' := [(4, .int y22), (3, .int r21), (0, .ref (ad 15 0 0)), (1, .int x1), (2, .int x2), (5, .int x5)]) hC.1 hC.2.1 dX10_setRound_60 hl (k := 4) rfl (by rw [ey22]; rfl) (by decide) rfl (fun ls hl => ?_)
          refine lv_iload hC.1 hC.2.1 dX10_setRound_63 (lv_at hl 5 rfl) ?_
          refine lv_bipush (v := 10) hC.1 hC.2.1 dX10_setRound_65 (by decide) ?_
          refine lv_idiv hC.1 hC.2.1 dX10_setRound_67 (by decide) ?_
          refine lv_topi (fun y23 ey23 => ?_)
          have h := h y23 ey23
          refine lv_istore (lv' := [(5, .int y23), (4, .int y22), (3, .int r21), (0, .ref (ad 15 0 0)), (1, .int x1), (2, .int x2)]) hC.1 hC.2.1 dX10_setRound_68 hl (by decide) rfl (fun ls hl => ?_)
          refine lv_goto (tgt := 39) hC.1 hC.2.1 dX10_setRound_70 (by decide) ?_
          exact kB39 _ _ _ _ _ _ _ h hS (lv_sub hl [3, 4, 5, 2, 1, 0] rfl)
  have kT32 : ∀ (x1 : Int32) (x2 : Int32) (s0 : Int32) (V : VS) (H : Heap) (locs : List Loc) (ls : Array Slot), wb_X10_setRound_32 ks a1 a2 post x1 x2 s0 V → ST G ks ad V (mA ks ad sz) s.heap H locs → lv_has ls 6 [(0, .ref (ad 15 0 0)), (1, .int x1), (2, .int x2)] → W p l e ({ frames := 2, cells := 0, slots := 0, locals := 43 } : Room) s m args below meth c H locs 0 0 (MQ below (mQi post G ks ad sz) args s 0 0 (mA ks ad sz)) (F0 m 32 ls [.int s0]) := by
    intro x1 x2 s0 V H locs ls h hS hl
    unfold wb_X10_setRound_32 at h
    refine lv_istore_n (lv' := [(3, .int s0), (0, .ref (ad 15 0 0)), (1, .int x1), (2, .int x2)]) hC.1 hC.2.1 dX10_setRound_32 rfl hl (by decide) rfl (fun ls hl => ?_)
    refine lv_iconst (v := 0) hC.1 hC.2.1 dX10_setRound_33 (by decide) ?_
    refine lv_istore (lv' := [(4, .int 0), (3, .int s0), (0, .ref (ad 15 0 0)), (1, .int x1), (2, .int x2)]) hC.1 hC.2.1 dX10_setRound_34 hl (by decide) rfl (fun ls hl => ?_)
    refine lv_iload_n hC.1 hC.2.1 dX10_setRound_36 rfl (lv_at hl 3 rfl) ?_
    refine lv_istore (lv' := [(5, .int x1), (4, .int 0), (3, .int s0), (0, .ref (ad 15 0 0)), (1, .int x1), (2, .int x2)]) hC.1 hC.2.1 dX10_setRound_37 hl (by decide) rfl (fun ls hl => ?_)
    exact kT39 _ _ _ _ _ _ _ _ _ h hS (lv_sub hl [3, 4, 5, 2, 1, 0] rfl)
  refine lv_aload_n hC.1 hC.2.1 dX10_setRound_0 rfl (lv_at hl 0 rfl) ?_
  refine lv_iconst (v := 0) hC.1 hC.2.1 dX10_setRound_1 (by decide) ?_
  obtain ⟨hk26, h⟩ := h
  refine pf_15_0 hC hS hk26 wq_1044 dX10_setRound_2 (fun H locs hS => ?_)
  obtain ⟨V27, eV27⟩ : ∃ z : VS, z = vup V 15 0 0 0 0 0 := ⟨_, rfl⟩
  rw [← eV27] at hS
  have h := h V27 eV27
  refine lv_iload_n hC.1 hC.2.1 dX10_setRound_5 rfl (lv_at hl 1 rfl) ?_
  refine lv_if_lt (tgt := 31) hC.1 hC.2.1 dX10_setRound_6 (by decide) (fun c32 => ?_) (fun c32 => ?_)
  · have h := h.1 c32
    refine lv_iconst (v := 0) hC.1 hC.2.1 dX10_setRound_31 (by decide) ?_
    exact kT32 _ _ _ _ _ _ _ h hS (lv_sub hl [0, 1, 2] rfl)
  · have h := h.2 c32
    refine lv_iload_n hC.1 hC.2.1 dX10_setRound_9 rfl (lv_at hl 1 rfl) ?_
    refine lv_ldc hC.1 hC.2.1 hC.2.2.2.1 (hC.2.2.2.2.1 _ wq_1126) dX10_setRound_10 ?_
    refine lv_icmp_ge (tgt := 31) hC.1 hC.2.1 dX10_setRound_12 (by decide) (fun c31 => ?_) (fun c31 => ?_)
    · have h := h.1 c31
      refine lv_iconst (v := 0) hC.1 hC.2.1 dX10_setRound_31 (by decide) ?_
      exact kT32 _ _ _ _ _ _ _ h hS (lv_sub hl [0, 1, 2] rfl)
    · have h := h.2 c31
      refine lv_iload_n hC.1 hC.2.1 dX10_setRound_15 rfl (lv_at hl 2 rfl) ?_
      refine lv_bipush (v := 10) hC.1 hC.2.1 dX10_setRound_16 (by decide) ?_
      refine lv_sipush (v := 300) hC.1 hC.2.1 dX10_setRound_18 (by decide) ?_
      refine g_calli0 hS (g_runS (n := 3) (rest := []) (As := [.int a2, .int 10, .int 300]) hC hS (c_X10_isIn l G ks ad a2 10 300 V27 _ h _) (gIS wq_1114 wq_1115 wq_46 wq_1116) ⟨⟨by decide +kernel, by decide +kernel, by decide +kernel⟩, rfl, rfl, Nat.le_of_ble_eq_true rfl, Nat.le_of_ble_eq_true rfl⟩ rfl hl rfl (Nat.le_of_ble_eq_true rfl) dX10_setRound_21 ⟨Nat.le_of_ble_eq_true rfl, Nat.le_of_ble_eq_true rfl⟩) (fun r29 V28 H locs h hS => ?_)
      refine lv_if_eq (tgt := 31) hC.1 hC.2.1 dX10_setRound_24 (by decide) (fun c30 => ?_) (fun c30 => ?_)
      · have h := h.1 c30
        refine lv_iconst (v := 0) hC.1 hC.2.1 dX10_setRound_31 (by decide) ?_
        exact kT32 _ _ _ _ _ _ _ h hS (lv_sub hl [0, 1, 2] rfl)
      · have h := h.2 c30
        refine lv_iconst (v := 1) hC.1 hC.2.1 dX10_setRound_27 (by decide) ?_
        refine lv_goto (tgt := 32) hC.1 hC.2.1 dX10_setRound_28 (by decide) ?_
        exact kT32 _ _ _ _ _ _ _ h hS (lv_sub hl [0, 1, 2] rfl)
def wk_X10_haltTold_106 (ks : List KY) (a1 : Int32) (a2 : Int32) (post : Int32 → VS → Prop) (B106 : Int32 → Int32 → VS → Prop) (x1 : Int32) (x2 : Int32) (x3 : Int32) (x4 : Int32) (x5 : Int32) (x6 : Int32) (V : VS) : Prop := ((15, 0, 0) ∈ ks ∧ (16, 0, 0) ∈ ks ∧ ((V 16 0 0 5 0) ≤ x6 → ((x2 = 0 → (post x3 V)) ∧ (¬ (x2 = 0) → ((x2 = 1 → (post x4 V)) ∧ (¬ (x2 = 1) → ((x2 = 2 → (post x5 V)) ∧ (¬ (x2 = 2) → ((x2 = 3 → ((24, 0, 0) ∈ ks ∧ vp_in x1 8 ∧ post (V 24 0 0 0 x1.toNatClampNeg) V)) ∧ (¬ (x2 = 3) → ((25, 0, 0) ∈ ks ∧ vp_in x1 8 ∧ post (V 25 0 0 0 x1.toNatClampNeg) V)))))))))) ∧ (¬ ((V 16 0 0 5 0) ≤ x6) → ((23, 0, 0) ∈ ks ∧ vp_in x6 8 ∧ ((V 23 0 0 0 x6.toNatClampNeg) = x1 → (∀ y13 : Int32, y13 = x5 + 1 → ∀ y14 : Int32, y14 = x6 + 1 → B106 y13 y14 V)) ∧ (¬ ((V 23 0 0 0 x6.toNatClampNeg) = x1) → (∀ y15 : Int32, y15 = x5 + 0 → ∀ y16 : Int32, y16 = x6 + 1 → B106 y15 y16 V)))))
def wl_X10_haltTold_106 (ks : List KY) (a1 : Int32) (a2 : Int32) (post : Int32 → VS → Prop) (x1 : Int32) (x2 : Int32) (x3 : Int32) (x4 : Int32) (x5 : Int32) (x6 : Int32) (V : VS) : Prop := ∃ J : Nat → Int32 → Int32 → VS → Prop, (∃ n, J n x5 x6 V) ∧ ∀ (n : Nat) (x5 : Int32) (x6 : Int32) (V : VS), J n x5 x6 V → wk_X10_haltTold_106 ks a1 a2 post (fun x5 x6 V => ∃ n', n' < n ∧ J n' x5 x6 V) x1 x2 x3 x4 x5 x6 V
def wk_X10_haltTold_50 (ks : List KY) (a1 : Int32) (a2 : Int32) (post : Int32 → VS → Prop) (B50 : Int32 → Int32 → VS → Prop) (x1 : Int32) (x2 : Int32) (x3 : Int32) (x5 : Int32) (x4 : Int32) (x6 : Int32) (V : VS) : Prop := ((15, 0, 0) ∈ ks ∧ ((V 15 0 0 2 0) ≤ x6 → (wl_X10_haltTold_106 ks a1 a2 post x1 x2 x3 x4 x5 0 V)) ∧ (¬ ((V 15 0 0 2 0) ≤ x6) → ((17, 0, 0) ∈ ks ∧ vp_in (4 * x6) 64 ∧ ((V 17 0 0 0 (4 * x6).toNatClampNeg) = x1 → (∀ y22 : Int32, y22 = x4 + 1 → ∀ y23 : Int32, y23 = x6 + 1 → B50 y22 y23 V)) ∧ (¬ ((V 17 0 0 0 (4 * x6).toNatClampNeg) = x1) → (vp_in ((4 * x6) + 1) 64 ∧ ((V 17 0 0 0 ((4 * x6) + 1).toNatClampNeg) = x1 → (∀ y25 : Int32, y25 = x4 + 1 → ∀ y26 : Int32, y26 = x6 + 1 → B50 y25 y26 V)) ∧ (¬ ((V 17 0 0 0 ((4 * x6) + 1).toNatClampNeg) = x1) → (∀ y27 : Int32, y27 = x4 + 0 → ∀ y28 : Int32, y28 = x6 + 1 → B50 y27 y28 V)))))))
def wl_X10_haltTold_50 (ks : List KY) (a1 : Int32) (a2 : Int32) (post : Int32 → VS → Prop) (x1 : Int32) (x2 : Int32) (x3 : Int32) (x5 : Int32) (x4 : Int32) (x6 : Int32) (V : VS) : Prop := ∃ J : Nat → Int32 → Int32 → VS → Prop, (∃ n, J n x4 x6 V) ∧ ∀ (n : Nat) (x4 : Int32) (x6 : Int32) (V : VS), J n x4 x6 V → wk_X10_haltTold_50 ks a1 a2 post (fun x4 x6 V => ∃ n', n' < n ∧ J n' x4 x6 V) x1 x2 x3 x5 x4 x6 V
def wk_X10_haltTold_11 (ks : List KY) (a1 : Int32) (a2 : Int32) (post : Int32 → VS → Prop) (B11 : Int32 → Int32 → VS → Prop) (x1 : Int32) (x2 : Int32) (x4 : Int32) (x5 : Int32) (x3 : Int32) (x6 : Int32) (V : VS) : Prop := ((15, 0, 0) ∈ ks ∧ ((V 15 0 0 8 0) ≤ x6 → (wl_X10_haltTold_50 ks a1 a2 post x1 x2 x3 x5 x4 0 V)) ∧ (¬ ((V 15 0 0 8 0) ≤ x6) → ((20, 0, 0) ∈ ks ∧ vp_in (3 * x6) 30 ∧ ((V 20 0 0 0 (3 * x6).toNatClampNeg) = x1 → (∀ y35 : Int32, y35 = x3 + 1 → ∀ y36 : Int32, y36 = x6 + 1 → B11 y35 y36 V)) ∧ (¬ ((V 20 0 0 0 (3 * x6).toNatClampNeg) = x1) → (∀ y37 : Int32, y37 = x3 + 0 → ∀ y38 : Int32, y38 = x6 + 1 → B11 y37 y38 V)))))
def wl_X10_haltTold_11 (ks : List KY) (a1 : Int32) (a2 : Int32) (post : Int32 → VS → Prop) (x1 : Int32) (x2 : Int32) (x4 : Int32) (x5 : Int32) (x3 : Int32) (x6 : Int32) (V : VS) : Prop := ∃ J : Nat → Int32 → Int32 → VS → Prop, (∃ n, J n x3 x6 V) ∧ ∀ (n : Nat) (x3 : Int32) (x6 : Int32) (V : VS), J n x3 x6 V → wk_X10_haltTold_11 ks a1 a2 post (fun x3 x6 V => ∃ n', n' < n ∧ J n' x3 x6 V) x1 x2 x4 x5 x3 x6 V
def wp_X10_haltTold (ks : List KY) (a1 : Int32) (a2 : Int32) (V : VS) (post : Int32 → VS → Prop) : Prop := (wl_X10_haltTold_11 ks a1 a2 post a1 a2 0 0 0 0 V)
set_option maxHeartbeats 4000000 in
set_option maxRecDepth 100000 in
theorem c_X10_haltTold (l : Launch) (G : GG) (ks : List KY) (ad : AD) (a1 : Int32) (a2 : Int32) (V : VS) (post : Int32 → VS → Prop) (h : wp_X10_haltTold ks a1 a2 V post) (sz : Nat) : Met l yX10_haltTold (ws_ yX10_haltTold cX10_haltTold 7 (some .int)) ({ frames := 0, cells := 0, slots := 0, locals := 0 }) (mPc [.ref (ad 15 0 0), .int a1, .int a2] G ks ad V sz) (mQi post G ks ad sz) 0 0 (mA ks ad sz) := by
  refine g_met (own := RX10) (by decide) rfl (Nat.le_of_ble_eq_true rfl) ?_
  intro p e s m args below meth c ls hC hsz hr hlk hin hS ha hl
  have hl : lv_has ls 7 [(0, .ref (ad 15 0 0)), (1, .int a1), (2, .int a2)] := hl
  unfold wp_X10_haltTold at h
  have kT106 : ∀ (x1 : Int32) (x2 : Int32) (x3 : Int32) (x4 : Int32) (x5 : Int32) (x6 : Int32) (V : VS) (H : Heap) (locs : List Loc) (ls : Array Slot), wl_X10_haltTold_106 ks a1 a2 post x1 x2 x3 x4 x5 x6 V → ST G ks ad V (mA ks ad sz) s.heap H locs → lv_has ls 7 [(0, .ref (ad 15 0 0)), (1, .int x1), (2, .int x2), (3, .int x3), (4, .int x4), (5, .int x5), (6, .int x6)] → W p l e ({ frames := 0, cells := 0, slots := 0, locals := 0 } : Room) s m args below meth c H locs 0 0 (MQ below (mQi post G ks ad sz) args s 0 0 (mA ks ad sz)) (F0 m 106 ls []) := by
    intro x1 x2 x3 x4 x5 x6 V H locs ls h hS hl
    obtain ⟨J, ⟨n, hJ⟩, hb⟩ := h
    induction n using Nat.strongRecOn generalizing x5 x6 V H locs ls with
    | _ n ih =>
      have h := hb n x5 x6 V hJ
      obtain ⟨B106, eB⟩ : ∃ z : Int32 → Int32 → VS → Prop, z = (fun x5 x6 V => ∃ n', n' < n ∧ J n' x5 x6 V) := ⟨_, rfl⟩
      rw [← eB] at h
      have kB106 : ∀ (x5 : Int32) (x6 : Int32) (V : VS) (H : Heap) (locs : List Loc) (ls : Array Slot), B106 x5 x6 V → ST G ks ad V (mA ks ad sz) s.heap H locs → lv_has ls 7 [(0, .ref (ad 15 0 0)), (1, .int x1), (2, .int x2), (3, .int x3), (4, .int x4), (5, .int x5), (6, .int x6)] → W p l e ({ frames := 0, cells := 0, slots := 0, locals := 0 } : Room) s m args below meth c H locs 0 0 (MQ below (mQi post G ks ad sz) args s 0 0 (mA ks ad sz)) (F0 m 106 ls []) := by
        intro x5 x6 V H locs ls h hS hl
        rw [eB] at h
        obtain ⟨n', hn, hJ'⟩ := h
        exact ih n' hn _ _ _ _ _ _ hS hl hJ'
      clear ih hJ hb eB
      unfold wk_X10_haltTold_106 at h
      refine lv_iload hC.1 hC.2.1 dX10_haltTold_106 (lv_at hl 6 rfl) ?_
      refine lv_aload_n hC.1 hC.2.1 dX10_haltTold_108 rfl (lv_at hl 0 rfl) ?_
      obtain ⟨hk1, h⟩ := h
      refine gf_15_11 hC hS hk1 wq_1065 dX10_haltTold_109 ?_
      obtain ⟨hk2, h⟩ := h
      refine gn_16_5 hC hS hk2 wq_987 dX10_haltTold_112 ?_
      refine lv_icmp_ge (tgt := 148) hC.1 hC.2.1 dX10_haltTold_115 (by decide) (fun c18 => ?_) (fun c18 => ?_)
      · have h := h.1 c18
        refine lv_iload_n hC.1 hC.2.1 dX10_haltTold_148 rfl (lv_at hl 2 rfl) ?_
        refine lv_if_ne (tgt := 156) hC.1 hC.2.1 dX10_haltTold_149 (by decide) (fun c10 => ?_) (fun c10 => ?_)
        · have h := h.2 c10
          refine lv_iload_n hC.1 hC.2.1 dX10_haltTold_156 rfl (lv_at hl 2 rfl) ?_
          refine lv_iconst (v := 1) hC.1 hC.2.1 dX10_haltTold_157 (by decide) ?_
          refine lv_icmp_ne (tgt := 166) hC.1 hC.2.1 dX10_haltTold_158 (by decide) (fun c9 => ?_) (fun c9 => ?_)
          · have h := h.2 c9
            refine lv_iload_n hC.1 hC.2.1 dX10_haltTold_166 rfl (lv_at hl 2 rfl) ?_
            refine lv_iconst (v := 2) hC.1 hC.2.1 dX10_haltTold_167 (by decide) ?_
            refine lv_icmp_ne (tgt := 176) hC.1 hC.2.1 dX10_haltTold_168 (by decide) (fun c8 => ?_) (fun c8 => ?_)
            · have h := h.2 c8
              refine lv_iload_n hC.1 hC.2.1 dX10_haltTold_176 rfl (lv_at hl 2 rfl) ?_
              refine lv_iconst (v := 3) hC.1 hC.2.1 dX10_haltTold_177 (by decide) ?_
              refine lv_icmp_ne (tgt := 193) hC.1 hC.2.1 dX10_haltTold_178 (by decide) (fun c7 => ?_) (fun c7 => ?_)
              · have h := h.2 c7
                refine lv_aload_n hC.1 hC.2.1 dX10_haltTold_193 rfl (lv_at hl 0 rfl) ?_
                refine gf_15_11 hC hS hk1 wq_1065 dX10_haltTold_194 ?_
                refine gn_16_7 hC hS hk2 wq_991 dX10_haltTold_197 ?_
                refine lv_iload_n hC.1 hC.2.1 dX10_haltTold_200 rfl (lv_at hl 1 rfl) ?_
                obtain ⟨hk5, h⟩ := h
                obtain ⟨hx6, h⟩ := h
                refine g_iald hC hS hk5 (by decide) hx6 dX10_haltTold_201 ?_
                exact g_iret hC hr hlk hS h dX10_haltTold_202
              · have h := h.1 c7
                refine lv_aload_n hC.1 hC.2.1 dX10_haltTold_181 rfl (lv_at hl 0 rfl) ?_
                refine gf_15_11 hC hS hk1 wq_1065 dX10_haltTold_182 ?_
                refine gn_16_6 hC hS hk2 wq_989 dX10_haltTold_185 ?_
                refine lv_iload_n hC.1 hC.2.1 dX10_haltTold_188 rfl (lv_at hl 1 rfl) ?_
                obtain ⟨hk3, h⟩ := h
                obtain ⟨hx4, h⟩ := h
                refine g_iald hC hS hk3 (by decide) hx4 dX10_haltTold_189 ?_
                refine lv_goto (tgt := 202) hC.1 hC.2.1 dX10_haltTold_190 (by decide) ?_
                exact g_iret hC hr hlk hS h dX10_haltTold_202
            · have h := h.1 c8
              refine lv_iload hC.1 hC.2.1 dX10_haltTold_171 (lv_at hl 5 rfl) ?_
              refine lv_goto (tgt := 202) hC.1 hC.2.1 dX10_haltTold_173 (by decide) ?_
              exact g_iret hC hr hlk hS h dX10_haltTold_202
          · have h := h.1 c9
            refine lv_iload hC.1 hC.2.1 dX10_haltTold_161 (lv_at hl 4 rfl) ?_
            refine lv_goto (tgt := 202) hC.1 hC.2.1 dX10_haltTold_163 (by decide) ?_
            exact g_iret hC hr hlk hS h dX10_haltTold_202
        · have h := h.1 c10
          refine lv_iload_n hC.1 hC.2.1 dX10_haltTold_152 rfl (lv_at hl 3 rfl) ?_
          refine lv_goto (tgt := 202) hC.1 hC.2.1 dX10_haltTold_153 (by decide) ?_
          exact g_iret hC hr hlk hS h dX10_haltTold_202
      · have h := h.2 c18
        refine lv_iload hC.1 hC.2.1 dX10_haltTold_118 (lv_at hl 5 rfl) ?_
        refine lv_aload_n hC.1 hC.2.1 dX10_haltTold_120 rfl (lv_at hl 0 rfl) ?_
        refine gf_15_11 hC hS hk1 wq_1065 dX10_haltTold_121 ?_
        refine gn_16_4 hC hS hk2 wq_985 dX10_haltTold_124 ?_
        refine lv_iload hC.1 hC.2.1 dX10_haltTold_127 (lv_at hl 6 rfl) ?_
        obtain ⟨hk11, h⟩ := h
        obtain ⟨hx12, h⟩ := h
        refine g_iald hC hS hk11 (by decide) hx12 dX10_haltTold_129 ?_
        refine lv_iload_n hC.1 hC.2.1 dX10_haltTold_130 rfl (lv_at hl 1 rfl) ?_
        refine lv_icmp_ne (tgt := 138) hC.1 hC.2.1 dX10_haltTold_131 (by decide) (fun c17 => ?_) (fun c17 => ?_)
        · have h := h.2 c17
          refine lv_iconst (v := 0) hC.1 hC.2.1 dX10_haltTold_138 (by decide) ?_
          refine lv_iadd hC.1 hC.2.1 dX10_haltTold_139 ?_
          refine lv_topi (fun y15 ey15 => ?_)
          have h := h y15 ey15
          refine lv_istore (lv' := [(5, .int y15), (0, .ref (ad 15 0 0)), (1, .int x1), (2, .int x2), (3, .int x3), (4, .int x4), (6, .int x6)]) hC.1 hC.2.1 dX10_haltTold_140 hl (by decide) rfl (fun ls hl => ?_)
          obtain ⟨y16, ey16⟩ : ∃ z : Int32, z = x6 + 1 := ⟨_, rfl⟩
          have h := h y16 ey16
          refine lv_iinc (v := y16) (lv' := [(6, .int y16), (5, .int y15), (0, .ref (ad 15 0 0)), (1, .int x1), (2, .int x2), (3, .int x3), (4, .int x4)]) hC.1 hC.2.1 dX10_haltTold_142 hl (k := 6) rfl (by rw [ey16]; rfl) (by decide) rfl (fun ls hl => ?_)
          refine lv_goto (tgt := 106) hC.1 hC.2.1 dX10_haltTold_145 (by decide) ?_
          exact kB106 _ _ _ _ _ _ h hS (lv_sub hl [2, 3, 4, 5, 6, 1, 0] rfl)
        · have h := h.1 c17
          refine lv_iconst (v := 1) hC.1 hC.2.1 dX10_haltTold_134 (by decide) ?_
          refine lv_goto (tgt := 139) hC.1 hC.2.1 dX10_haltTold_135 (by decide) ?_
          refine lv_iadd hC.1 hC.2.1 dX10_haltTold_139 ?_
          refine lv_topi (fun y13 ey13 => ?_)
          have h := h y13 ey13
          refine lv_istore (lv' := [(5, .int y13), (0, .ref (ad 15 0 0)), (1, .int x1), (2, .int x2), (3, .int x3), (4, .int x4), (6, .int x6)]) hC.1 hC.2.1 dX10_haltTold_140 hl (by decide) rfl (fun ls hl => ?_)
          obtain ⟨y14, ey14⟩ : ∃ z : Int32, z = x6 + 1 := ⟨_, rfl⟩
          have h := h y14 ey14
          refine lv_iinc (v := y14) (lv' := [(6, .int y14), (5, .int y13), (0, .ref (ad 15 0 0)), (1, .int x1), (2, .int x2), (3, .int x3), (4, .int x4)]) hC.1 hC.2.1 dX10_haltTold_142 hl (k := 6) rfl (by rw [ey14]; rfl) (by decide) rfl (fun ls hl => ?_)
          refine lv_goto (tgt := 106) hC.1 hC.2.1 dX10_haltTold_145 (by decide) ?_
          exact kB106 _ _ _ _ _ _ h hS (lv_sub hl [2, 3, 4, 5, 6, 1, 0] rfl)
  have kT50 : ∀ (x1 : Int32) (x2 : Int32) (x3 : Int32) (x5 : Int32) (x4 : Int32) (x6 : Int32) (V : VS) (H : Heap) (locs : List Loc) (ls : Array Slot), wl_X10_haltTold_50 ks a1 a2 post x1 x2 x3 x5 x4 x6 V → ST G ks ad V (mA ks ad sz) s.heap H locs → lv_has ls 7 [(0, .ref (ad 15 0 0)), (1, .int x1), (2, .int x2), (3, .int x3), (4, .int x4), (5, .int x5), (6, .int x6)] → W p l e ({ frames := 0, cells := 0, slots := 0, locals := 0 } : Room) s m args below meth c H locs 0 0 (MQ below (mQi post G ks ad sz) args s 0 0 (mA ks ad sz)) (F0 m 50 ls []) := by
    intro x1 x2 x3 x5 x4 x6 V H locs ls h hS hl
    obtain ⟨J, ⟨n, hJ⟩, hb⟩ := h
    induction n using Nat.strongRecOn generalizing x4 x6 V H locs ls with
    | _ n ih =>
      have h := hb n x4 x6 V hJ
      obtain ⟨B50, eB⟩ : ∃ z : Int32 → Int32 → VS → Prop, z = (fun x4 x6 V => ∃ n', n' < n ∧ J n' x4 x6 V) := ⟨_, rfl⟩
      rw [← eB] at h
      have kB50 : ∀ (x4 : Int32) (x6 : Int32) (V : VS) (H : Heap) (locs : List Loc) (ls : Array Slot), B50 x4 x6 V → ST G ks ad V (mA ks ad sz) s.heap H locs → lv_has ls 7 [(0, .ref (ad 15 0 0)), (1, .int x1), (2, .int x2), (3, .int x3), (4, .int x4), (5, .int x5), (6, .int x6)] → W p l e ({ frames := 0, cells := 0, slots := 0, locals := 0 } : Room) s m args below meth c H locs 0 0 (MQ below (mQi post G ks ad sz) args s 0 0 (mA ks ad sz)) (F0 m 50 ls []) := by
        intro x4 x6 V H locs ls h hS hl
        rw [eB] at h
        obtain ⟨n', hn, hJ'⟩ := h
        exact ih n' hn _ _ _ _ _ _ hS hl hJ'
      clear ih hJ hb eB
      unfold wk_X10_haltTold_50 at h
      refine lv_iload hC.1 hC.2.1 dX10_haltTold_50 (lv_at hl 6 rfl) ?_
      refine lv_aload_n hC.1 hC.2.1 dX10_haltTold_52 rfl (lv_at hl 0 rfl) ?_
      obtain ⟨hk19, h⟩ := h
      refine gf_15_2 hC hS hk19 wq_1048 dX10_haltTold_53 ?_
      refine lv_icmp_ge (tgt := 103) hC.1 hC.2.1 dX10_haltTold_56 (by decide) (fun c31 => ?_) (fun c31 => ?_)
      · have h := h.1 c31
        refine lv_iconst (v := 0) hC.1 hC.2.1 dX10_haltTold_103 (by decide) ?_
        refine lv_istore (lv' := [(6, .int 0), (0, .ref (ad 15 0 0)), (1, .int x1), (2, .int x2), (3, .int x3), (4, .int x4), (5, .int x5)]) hC.1 hC.2.1 dX10_haltTold_104 hl (by decide) rfl (fun ls hl => ?_)
        exact kT106 _ _ _ _ _ _ _ _ _ _ h hS (lv_sub hl [1, 2, 3, 4, 5, 6, 0] rfl)
      · have h := h.2 c31
        refine lv_iload hC.1 hC.2.1 dX10_haltTold_59 (lv_at hl 4 rfl) ?_
        refine lv_aload_n hC.1 hC.2.1 dX10_haltTold_61 rfl (lv_at hl 0 rfl) ?_
        refine gf_15_3 hC hS hk19 wq_1049 dX10_haltTold_62 ?_
        refine lv_iconst (v := 4) hC.1 hC.2.1 dX10_haltTold_65 (by decide) ?_
        refine lv_iload hC.1 hC.2.1 dX10_haltTold_66 (lv_at hl 6 rfl) ?_
        refine lv_imul hC.1 hC.2.1 dX10_haltTold_68 ?_
        obtain ⟨hk20, h⟩ := h
        obtain ⟨hx21, h⟩ := h
        refine g_iald hC hS hk20 (by decide) hx21 dX10_haltTold_69 ?_
        refine lv_iload_n hC.1 hC.2.1 dX10_haltTold_70 rfl (lv_at hl 1 rfl) ?_
        refine lv_icmp_eq (tgt := 89) hC.1 hC.2.1 dX10_haltTold_71 (by decide) (fun c30 => ?_) (fun c30 => ?_)
        · have h := h.1 c30
          refine lv_iconst (v := 1) hC.1 hC.2.1 dX10_haltTold_89 (by decide) ?_
          refine lv_goto (tgt := 94) hC.1 hC.2.1 dX10_haltTold_90 (by decide) ?_
          refine lv_iadd hC.1 hC.2.1 dX10_haltTold_94 ?_
          refine lv_topi (fun y22 ey22 => ?_)
          have h := h y22 ey22
          refine lv_istore (lv' := [(4, .int y22), (0, .ref (ad 15 0 0)), (1, .int x1), (2, .int x2), (3, .int x3), (5, .int x5), (6, .int x6)]) hC.1 hC.2.1 dX10_haltTold_95 hl (by decide) rfl (fun ls hl => ?_)
          obtain ⟨y23, ey23⟩ : ∃ z : Int32, z = x6 + 1 := ⟨_, rfl⟩
          have h := h y23 ey23
          refine lv_iinc (v := y23) (lv' := [(6, .int y23), (4, .int y22), (0, .ref (ad 15 0 0)), (1, .int x1), (2, .int x2), (3, .int x3), (5, .int x5)]) hC.1 hC.2.1 dX10_haltTold_97 hl (k := 6) rfl (by rw [ey23]; rfl) (by decide) rfl (fun ls hl => ?_)
          refine lv_goto (tgt := 50) hC.1 hC.2.1 dX10_haltTold_100 (by decide) ?_
          exact kB50 _ _ _ _ _ _ h hS (lv_sub hl [2, 3, 4, 5, 1, 6, 0] rfl)
        · have h := h.2 c30
          refine lv_aload_n hC.1 hC.2.1 dX10_haltTold_74 rfl (lv_at hl 0 rfl) ?_
          refine gf_15_3 hC hS hk19 wq_1049 dX10_haltTold_75 ?_
          refine lv_iconst (v := 4) hC.1 hC.2.1 dX10_haltTold_78 (by decide) ?_
          refine lv_iload hC.1 hC.2.1 dX10_haltTold_79 (lv_at hl 6 rfl) ?_
          refine lv_imul hC.1 hC.2.1 dX10_haltTold_81 ?_
          refine lv_iconst (v := 1) hC.1 hC.2.1 dX10_haltTold_82 (by decide) ?_
          refine lv_iadd hC.1 hC.2.1 dX10_haltTold_83 ?_
          obtain ⟨hx24, h⟩ := h
          refine g_iald hC hS hk20 (by decide) hx24 dX10_haltTold_84 ?_
          refine lv_iload_n hC.1 hC.2.1 dX10_haltTold_85 rfl (lv_at hl 1 rfl) ?_
          refine lv_icmp_ne (tgt := 93) hC.1 hC.2.1 dX10_haltTold_86 (by decide) (fun c29 => ?_) (fun c29 => ?_)
          · have h := h.2 c29
            refine lv_iconst (v := 0) hC.1 hC.2.1 dX10_haltTold_93 (by decide) ?_
            refine lv_iadd hC.1 hC.2.1 dX10_haltTold_94 ?_
            refine lv_topi (fun y27 ey27 => ?_)
            have h := h y27 ey27
            refine lv_istore (lv' := [(4, .int y27), (0, .ref (ad 15 0 0)), (1, .int x1), (2, .int x2), (3, .int x3), (5, .int x5), (6, .int x6)]) hC.1 hC.2.1 dX10_haltTold_95 hl (by decide) rfl (fun ls hl => ?_)
            obtain ⟨y28, ey28⟩ : ∃ z : Int32, z = x6 + 1 := ⟨_, rfl⟩
            have h := h y28 ey28
            refine lv_iinc (v := y28) (lv' := [(6, .int y28), (4, .int y27), (0, .ref (ad 15 0 0)), (1, .int x1), (2, .int x2), (3, .int x3), (5, .int x5)]) hC.1 hC.2.1 dX10_haltTold_97 hl (k := 6) rfl (by rw [ey28]; rfl) (by decide) rfl (fun ls hl => ?_)
            refine lv_goto (tgt := 50) hC.1 hC.2.1 dX10_haltTold_100 (by decide) ?_
            exact kB50 _ _ _ _ _ _ h hS (lv_sub hl [2, 3, 4, 5, 1, 6, 0] rfl)
          · have h := h.1 c29
            refine lv_iconst (v := 1) hC.1 hC.2.1 dX10_haltTold_89 (by decide) ?_
            refine lv_goto (tgt := 94) hC.1 hC.2.1 dX10_haltTold_90 (by decide) ?_
            refine lv_iadd hC.1 hC.2.1 dX10_haltTold_94 ?_
            refine lv_topi (fun y25 ey25 => ?_)
            have h := h y25 ey25
            refine lv_istore (lv' := [(4, .int y25), (0, .ref (ad 15 0 0)), (1, .int x1), (2, .int x2), (3, .int x3), (5, .int x5), (6, .int x6)]) hC.1 hC.2.1 dX10_haltTold_95 hl (by decide) rfl (fun ls hl => ?_)
            obtain ⟨y26, ey26⟩ : ∃ z : Int32, z = x6 + 1 := ⟨_, rfl⟩
            have h := h y26 ey26
            refine lv_iinc (v := y26) (lv' := [(6, .int y26), (4, .int y25), (0, .ref (ad 15 0 0)), (1, .int x1), (2, .int x2), (3, .int x3), (5, .int x5)]) hC.1 hC.2.1 dX10_haltTold_97 hl (k := 6) rfl (by rw [ey26]; rfl) (by decide) rfl (fun ls hl => ?_)
            refine lv_goto (tgt := 50) hC.1 hC.2.1 dX10_haltTold_100 (by decide) ?_
            exact kB50 _ _ _ _ _ _ h hS (lv_sub hl [2, 3, 4, 5, 1, 6, 0] rfl)
  have kT11 : ∀ (x1 : Int32) (x2 : Int32) (x4 : Int32) (x5 : Int32) (x3 : Int32) (x6 : Int32) (V : VS) (H : Heap) (locs : List Loc) (ls : Array Slot), wl_X10_haltTold_11 ks a1 a2 post x1 x2 x4 x5 x3 x6 V → ST G ks ad V (mA ks ad sz) s.heap H locs → lv_has ls 7 [(0, .ref (ad 15 0 0)), (1, .int x1), (2, .int x2), (3, .int x3), (4, .int x4), (5, .int x5), (6, .int x6)] → W p l e ({ frames := 0, cells := 0, slots := 0, locals := 0 } : Room) s m args below meth c H locs 0 0 (MQ below (mQi post G ks ad sz) args s 0 0 (mA ks ad sz)) (F0 m 11 ls []) := by
    intro x1 x2 x4 x5 x3 x6 V H locs ls h hS hl
    obtain ⟨J, ⟨n, hJ⟩, hb⟩ := h
    induction n using Nat.strongRecOn generalizing x3 x6 V H locs ls with
    | _ n ih =>
      have h := hb n x3 x6 V hJ
      obtain ⟨B11, eB⟩ : ∃ z : Int32 → Int32 → VS → Prop, z = (fun x3 x6 V => ∃ n', n' < n ∧ J n' x3 x6 V) := ⟨_, rfl⟩
      rw [← eB] at h
      have kB11 : ∀ (x3 : Int32) (x6 : Int32) (V : VS) (H : Heap) (locs : List Loc) (ls : Array Slot), B11 x3 x6 V → ST G ks ad V (mA ks ad sz) s.heap H locs → lv_has ls 7 [(0, .ref (ad 15 0 0)), (1, .int x1), (2, .int x2), (3, .int x3), (4, .int x4), (5, .int x5), (6, .int x6)] → W p l e ({ frames := 0, cells := 0, slots := 0, locals := 0 } : Room) s m args below meth c H locs 0 0 (MQ below (mQi post G ks ad sz) args s 0 0 (mA ks ad sz)) (F0 m 11 ls []) := by
        intro x3 x6 V H locs ls h hS hl
        rw [eB] at h
        obtain ⟨n', hn, hJ'⟩ := h
        exact ih n' hn _ _ _ _ _ _ hS hl hJ'
      clear ih hJ hb eB
      unfold wk_X10_haltTold_11 at h
      refine lv_iload hC.1 hC.2.1 dX10_haltTold_11 (lv_at hl 6 rfl) ?_
      refine lv_aload_n hC.1 hC.2.1 dX10_haltTold_13 rfl (lv_at hl 0 rfl) ?_
      obtain ⟨hk32, h⟩ := h
      refine gf_15_8 hC hS hk32 wq_1059 dX10_haltTold_14 ?_
      refine lv_icmp_ge (tgt := 47) hC.1 hC.2.1 dX10_haltTold_17 (by decide) (fun c40 => ?_) (fun c40 => ?_)
      · have h := h.1 c40
        refine lv_iconst (v := 0) hC.1 hC.2.1 dX10_haltTold_47 (by decide) ?_
        refine lv_istore (lv' := [(6, .int 0), (0, .ref (ad 15 0 0)), (1, .int x1), (2, .int x2), (3, .int x3), (4, .int x4), (5, .int x5)]) hC.1 hC.2.1 dX10_haltTold_48 hl (by decide) rfl (fun ls hl => ?_)
        exact kT50 _ _ _ _ _ _ _ _ _ _ h hS (lv_sub hl [1, 2, 3, 4, 5, 6, 0] rfl)
      · have h := h.2 c40
        refine lv_iload_n hC.1 hC.2.1 dX10_haltTold_20 rfl (lv_at hl 3 rfl) ?_
        refine lv_aload_n hC.1 hC.2.1 dX10_haltTold_21 rfl (lv_at hl 0 rfl) ?_
        refine gf_15_9 hC hS hk32 wq_1061 dX10_haltTold_22 ?_
        refine lv_iconst (v := 3) hC.1 hC.2.1 dX10_haltTold_25 (by decide) ?_
        refine lv_iload hC.1 hC.2.1 dX10_haltTold_26 (lv_at hl 6 rfl) ?_
        refine lv_imul hC.1 hC.2.1 dX10_haltTold_28 ?_
        obtain ⟨hk33, h⟩ := h
        obtain ⟨hx34, h⟩ := h
        refine g_iald hC hS hk33 (by decide) hx34 dX10_haltTold_29 ?_
        refine lv_iload_n hC.1 hC.2.1 dX10_haltTold_30 rfl (lv_at hl 1 rfl) ?_
        refine lv_icmp_ne (tgt := 38) hC.1 hC.2.1 dX10_haltTold_31 (by decide) (fun c39 => ?_) (fun c39 => ?_)
        · have h := h.2 c39
          refine lv_iconst (v := 0) hC.1 hC.2.1 dX10_haltTold_38 (by decide) ?_
          refine lv_iadd hC.1 hC.2.1 dX10_haltTold_39 ?_
          refine lv_topi (fun y37 ey37 => ?_)
          have h := h y37 ey37
          refine lv_istore_n (lv' := [(3, .int y37), (0, .ref (ad 15 0 0)), (1, .int x1), (2, .int x2), (4, .int x4), (5, .int x5), (6, .int x6)]) hC.1 hC.2.1 dX10_haltTold_40 rfl hl (by decide) rfl (fun ls hl => ?_)
          obtain ⟨y38, ey38⟩ : ∃ z : Int32, z = x6 + 1 := ⟨_, rfl⟩
          have h := h y38 ey38
          refine lv_iinc (v := y38) (lv' := [(6, .int y38), (3, .int y37), (0, .ref (ad 15 0 0)), (1, .int x1), (2, .int x2), (4, .int x4), (5, .int x5)]) hC.1 hC.2.1 dX10_haltTold_41 hl (k := 6) rfl (by rw [ey38]; rfl) (by decide) rfl (fun ls hl => ?_)
          refine lv_goto (tgt := 11) hC.1 hC.2.1 dX10_haltTold_44 (by decide) ?_
          exact kB11 _ _ _ _ _ _ h hS (lv_sub hl [2, 3, 4, 1, 5, 6, 0] rfl)
        · have h := h.1 c39
          refine lv_iconst (v := 1) hC.1 hC.2.1 dX10_haltTold_34 (by decide) ?_
          refine lv_goto (tgt := 39) hC.1 hC.2.1 dX10_haltTold_35 (by decide) ?_
          refine lv_iadd hC.1 hC.2.1 dX10_haltTold_39 ?_
          refine lv_topi (fun y35 ey35 => ?_)
          have h := h y35 ey35
          refine lv_istore_n (lv' := [(3, .int y35), (0, .ref (ad 15 0 0)), (1, .int x1), (2, .int x2), (4, .int x4), (5, .int x5), (6, .int x6)]) hC.1 hC.2.1 dX10_haltTold_40 rfl hl (by decide) rfl (fun ls hl => ?_)
          obtain ⟨y36, ey36⟩ : ∃ z : Int32, z = x6 + 1 := ⟨_, rfl⟩
          have h := h y36 ey36
          refine lv_iinc (v := y36) (lv' := [(6, .int y36), (3, .int y35), (0, .ref (ad 15 0 0)), (1, .int x1), (2, .int x2), (4, .int x4), (5, .int x5)]) hC.1 hC.2.1 dX10_haltTold_41 hl (k := 6) rfl (by rw [ey36]; rfl) (by decide) rfl (fun ls hl => ?_)
          refine lv_goto (tgt := 11) hC.1 hC.2.1 dX10_haltTold_44 (by decide) ?_
          exact kB11 _ _ _ _ _ _ h hS (lv_sub hl [2, 3, 4, 1, 5, 6, 0] rfl)
  refine lv_iconst (v := 0) hC.1 hC.2.1 dX10_haltTold_0 (by decide) ?_
  refine lv_istore_n (lv' := [(3, .int 0), (0, .ref (ad 15 0 0)), (1, .int a1), (2, .int a2)]) hC.1 hC.2.1 dX10_haltTold_1 rfl hl (by decide) rfl (fun ls hl => ?_)
  refine lv_iconst (v := 0) hC.1 hC.2.1 dX10_haltTold_2 (by decide) ?_
  refine lv_istore (lv' := [(4, .int 0), (3, .int 0), (0, .ref (ad 15 0 0)), (1, .int a1), (2, .int a2)]) hC.1 hC.2.1 dX10_haltTold_3 hl (by decide) rfl (fun ls hl => ?_)
  refine lv_iconst (v := 0) hC.1 hC.2.1 dX10_haltTold_5 (by decide) ?_
  refine lv_istore (lv' := [(5, .int 0), (4, .int 0), (3, .int 0), (0, .ref (ad 15 0 0)), (1, .int a1), (2, .int a2)]) hC.1 hC.2.1 dX10_haltTold_6 hl (by decide) rfl (fun ls hl => ?_)
  refine lv_iconst (v := 0) hC.1 hC.2.1 dX10_haltTold_8 (by decide) ?_
  refine lv_istore (lv' := [(6, .int 0), (5, .int 0), (4, .int 0), (3, .int 0), (0, .ref (ad 15 0 0)), (1, .int a1), (2, .int a2)]) hC.1 hC.2.1 dX10_haltTold_9 hl (by decide) rfl (fun ls hl => ?_)
  exact kT11 _ _ _ _ _ _ _ _ _ _ h hS (lv_sub hl [4, 5, 6, 3, 2, 1, 0] rfl)
def wp_X10_halt (ks : List KY) (a1 : Int32) (a2 : Int32) (V : VS) (post : Int32 → VS → Prop) : Prop := ((15, 0, 0) ∈ ks ∧ ∀ V2 : VS, V2 = vup V 15 0 0 0 0 0 → wp_X10_isHalt ks a1 V2 (fun r4 V3 => ((r4 = 0 → (wp_X10_no ks 1 V3 (fun r6 V5 => (post r6 V5)))) ∧ (¬ (r4 = 0) → (wp_X10_isIn ks a2 0 4 V3 (fun r8 V7 => ((r8 = 0 → (wp_X10_no ks 1 V7 (fun r10 V9 => (post r10 V9)))) ∧ (¬ (r8 = 0) → (wp_X10_haltTold ks a1 a2 V7 (fun r12 V11 => (post r12 V11)))))))))))
set_option maxHeartbeats 4000000 in
set_option maxRecDepth 100000 in
theorem c_X10_halt (l : Launch) (G : GG) (ks : List KY) (ad : AD) (a1 : Int32) (a2 : Int32) (V : VS) (post : Int32 → VS → Prop) (h : wp_X10_halt ks a1 a2 V post) (sz : Nat) : Met l yX10_halt (ws_ yX10_halt cX10_halt 3 (some .int)) ({ frames := 2, cells := 0, slots := 0, locals := 43 }) (mPc [.ref (ad 15 0 0), .int a1, .int a2] G ks ad V sz) (mQi post G ks ad sz) 0 0 (mA ks ad sz) := by
  refine g_met (own := RX10) (by decide) rfl (Nat.le_of_ble_eq_true rfl) ?_
  intro p e s m args below meth c ls hC hsz hr hlk hin hS ha hl
  have hl : lv_has ls 3 [(0, .ref (ad 15 0 0)), (1, .int a1), (2, .int a2)] := hl
  unfold wp_X10_halt at h
  refine lv_aload_n hC.1 hC.2.1 dX10_halt_0 rfl (lv_at hl 0 rfl) ?_
  refine lv_iconst (v := 0) hC.1 hC.2.1 dX10_halt_1 (by decide) ?_
  obtain ⟨hk1, h⟩ := h
  refine pf_15_0 hC hS hk1 wq_1044 dX10_halt_2 (fun H locs hS => ?_)
  obtain ⟨V2, eV2⟩ : ∃ z : VS, z = vup V 15 0 0 0 0 0 := ⟨_, rfl⟩
  rw [← eV2] at hS
  have h := h V2 eV2
  refine lv_aload_n hC.1 hC.2.1 dX10_halt_5 rfl (lv_at hl 0 rfl) ?_
  refine lv_iload_n hC.1 hC.2.1 dX10_halt_6 rfl (lv_at hl 1 rfl) ?_
  refine g_calli0 hS (g_runV (n := 1) (rest := []) (As := [.int a1]) (C := RX10) (T := TX10) (N := 13) hC hS hk1 rfl rfl (c_X10_isHalt l G ks ad a1 V2 _ h _) (gI wq_1110 wq_1112 wq_24 wq_46 wq_1113) rfl ⟨⟨by decide +kernel, by decide +kernel, by decide +kernel⟩, rfl, rfl, Nat.le_of_ble_eq_true rfl, Nat.le_of_ble_eq_true rfl⟩ rfl hl rfl (Nat.le_of_ble_eq_true rfl) dX10_halt_7 ⟨Nat.le_of_ble_eq_true rfl, Nat.le_of_ble_eq_true rfl⟩) (fun r4 V3 H locs h hS => ?_)
  refine lv_if_eq (tgt := 31) hC.1 hC.2.1 dX10_halt_10 (by decide) (fun c14 => ?_) (fun c14 => ?_)
  · have h := h.1 c14
    refine lv_aload_n hC.1 hC.2.1 dX10_halt_31 rfl (lv_at hl 0 rfl) ?_
    refine lv_iconst (v := 1) hC.1 hC.2.1 dX10_halt_32 (by decide) ?_
    refine g_calli0 hS (g_runV (n := 1) (rest := []) (As := [.int 1]) (C := RX10) (T := TX10) (N := 13) hC hS hk1 rfl rfl (c_X10_no l G ks ad 1 V3 _ h _) (gI wq_1102 wq_1104 wq_23 wq_46 wq_1105) rfl ⟨⟨by decide +kernel, by decide +kernel, by decide +kernel⟩, rfl, rfl, Nat.le_of_ble_eq_true rfl, Nat.le_of_ble_eq_true rfl⟩ rfl hl rfl (Nat.le_of_ble_eq_true rfl) dX10_halt_33 ⟨Nat.le_of_ble_eq_true rfl, Nat.le_of_ble_eq_true rfl⟩) (fun r6 V5 H locs h hS => ?_)
    exact g_iret hC hr hlk hS h dX10_halt_36
  · have h := h.2 c14
    refine lv_iload_n hC.1 hC.2.1 dX10_halt_13 rfl (lv_at hl 2 rfl) ?_
    refine lv_iconst (v := 0) hC.1 hC.2.1 dX10_halt_14 (by decide) ?_
    refine lv_iconst (v := 4) hC.1 hC.2.1 dX10_halt_15 (by decide) ?_
    refine g_calli0 hS (g_runS (n := 3) (rest := []) (As := [.int a2, .int 0, .int 4]) hC hS (c_X10_isIn l G ks ad a2 0 4 V3 _ h _) (gIS wq_1114 wq_1115 wq_46 wq_1116) ⟨⟨by decide +kernel, by decide +kernel, by decide +kernel⟩, rfl, rfl, Nat.le_of_ble_eq_true rfl, Nat.le_of_ble_eq_true rfl⟩ rfl hl rfl (Nat.le_of_ble_eq_true rfl) dX10_halt_16 ⟨Nat.le_of_ble_eq_true rfl, Nat.le_of_ble_eq_true rfl⟩) (fun r8 V7 H locs h hS => ?_)
    refine lv_if_eq (tgt := 31) hC.1 hC.2.1 dX10_halt_19 (by decide) (fun c13 => ?_) (fun c13 => ?_)
    · have h := h.1 c13
      refine lv_aload_n hC.1 hC.2.1 dX10_halt_31 rfl (lv_at hl 0 rfl) ?_
      refine lv_iconst (v := 1) hC.1 hC.2.1 dX10_halt_32 (by decide) ?_
      refine g_calli0 hS (g_runV (n := 1) (rest := []) (As := [.int 1]) (C := RX10) (T := TX10) (N := 13) hC hS hk1 rfl rfl (c_X10_no l G ks ad 1 V7 _ h _) (gI wq_1102 wq_1104 wq_23 wq_46 wq_1105) rfl ⟨⟨by decide +kernel, by decide +kernel, by decide +kernel⟩, rfl, rfl, Nat.le_of_ble_eq_true rfl, Nat.le_of_ble_eq_true rfl⟩ rfl hl rfl (Nat.le_of_ble_eq_true rfl) dX10_halt_33 ⟨Nat.le_of_ble_eq_true rfl, Nat.le_of_ble_eq_true rfl⟩) (fun r10 V9 H locs h hS => ?_)
      exact g_iret hC hr hlk hS h dX10_halt_36
    · have h := h.2 c13
      refine lv_aload_n hC.1 hC.2.1 dX10_halt_22 rfl (lv_at hl 0 rfl) ?_
      refine lv_iload_n hC.1 hC.2.1 dX10_halt_23 rfl (lv_at hl 1 rfl) ?_
      refine lv_iload_n hC.1 hC.2.1 dX10_halt_24 rfl (lv_at hl 2 rfl) ?_
      refine g_calli0 hS (g_runV (n := 2) (rest := []) (As := [.int a1, .int a2]) (C := RX10) (T := TX10) (N := 13) hC hS hk1 rfl rfl (c_X10_haltTold l G ks ad a1 a2 V7 _ h _) (gI wq_1131 wq_1133 wq_25 wq_46 wq_1134) rfl ⟨⟨by decide +kernel, by decide +kernel, by decide +kernel⟩, rfl, rfl, Nat.le_of_ble_eq_true rfl, Nat.le_of_ble_eq_true rfl⟩ rfl hl rfl (Nat.le_of_ble_eq_true rfl) dX10_halt_25 ⟨Nat.le_of_ble_eq_true rfl, Nat.le_of_ble_eq_true rfl⟩) (fun r12 V11 H locs h hS => ?_)
      refine lv_goto (tgt := 36) hC.1 hC.2.1 dX10_halt_28 (by decide) ?_
      exact g_iret hC hr hlk hS h dX10_halt_36
def wp_X10_laneTold (ks : List KY) (a1 : Int32) (a2 : Int32) (V : VS) (post : Int32 → VS → Prop) : Prop := (((4 : Int32) ≤ a2 → ((a2 = 4 → ((15, 0, 0) ∈ ks ∧ (16, 0, 0) ∈ ks ∧ (22, 0, 0) ∈ ks ∧ vp_in a1 16 ∧ post (V 22 0 0 0 a1.toNatClampNeg) V)) ∧ (¬ (a2 = 4) → ((15, 0, 0) ∈ ks ∧ (16, 0, 0) ∈ ks ∧ wp_X9_minutesOf ks 0 a1 V (fun r8 V6 => (post r8 V6)))))) ∧ (¬ ((4 : Int32) ≤ a2) → ((15, 0, 0) ∈ ks ∧ (17, 0, 0) ∈ ks ∧ vp_in ((4 * a1) + a2) 64 ∧ post (V 17 0 0 0 ((4 * a1) + a2).toNatClampNeg) V)))
set_option maxHeartbeats 4000000 in
set_option maxRecDepth 100000 in
theorem c_X10_laneTold (l : Launch) (G : GG) (ks : List KY) (ad : AD) (a1 : Int32) (a2 : Int32) (V : VS) (post : Int32 → VS → Prop) (h : wp_X10_laneTold ks a1 a2 V post) (sz : Nat) : Met l yX10_laneTold (ws_ yX10_laneTold cX10_laneTold 3 (some .int)) ({ frames := 1, cells := 0, slots := 0, locals := 21 }) (mPc [.ref (ad 15 0 0), .int a1, .int a2] G ks ad V sz) (mQi post G ks ad sz) 0 0 (mA ks ad sz) := by
  refine g_met (own := RX10) (by decide) rfl (Nat.le_of_ble_eq_true rfl) ?_
  intro p e s m args below meth c ls hC hsz hr hlk hin hS ha hl
  have hl : lv_has ls 3 [(0, .ref (ad 15 0 0)), (1, .int a1), (2, .int a2)] := hl
  unfold wp_X10_laneTold at h
  refine lv_iload_n hC.1 hC.2.1 dX10_laneTold_0 rfl (lv_at hl 2 rfl) ?_
  refine lv_iconst (v := 4) hC.1 hC.2.1 dX10_laneTold_1 (by decide) ?_
  refine lv_icmp_ge (tgt := 18) hC.1 hC.2.1 dX10_laneTold_2 (by decide) (fun c13 => ?_) (fun c13 => ?_)
  · have h := h.1 c13
    refine lv_iload_n hC.1 hC.2.1 dX10_laneTold_18 rfl (lv_at hl 2 rfl) ?_
    refine lv_iconst (v := 4) hC.1 hC.2.1 dX10_laneTold_19 (by decide) ?_
    refine lv_icmp_ne (tgt := 35) hC.1 hC.2.1 dX10_laneTold_20 (by decide) (fun c9 => ?_) (fun c9 => ?_)
    · have h := h.2 c9
      refine lv_aload_n hC.1 hC.2.1 dX10_laneTold_35 rfl (lv_at hl 0 rfl) ?_
      obtain ⟨hk5, h⟩ := h
      refine gf_15_11 hC hS hk5 wq_1065 dX10_laneTold_36 ?_
      refine lv_iload_n hC.1 hC.2.1 dX10_laneTold_39 rfl (lv_at hl 1 rfl) ?_
      obtain ⟨hk7, h⟩ := h
      refine g_calli0 hS (g_runV (n := 1) (rest := []) (As := [.int a1]) (C := RX9) (T := TX9) (N := 17) hC hS hk7 rfl rfl (c_X9_minutesOf l G ks ad 0 a1 V _ h _) (gI wq_1143 wq_1144 wq_1145 wq_47 wq_1146) rfl ⟨⟨by decide +kernel, by decide +kernel, by decide +kernel⟩, rfl, rfl, Nat.le_of_ble_eq_true rfl, Nat.le_of_ble_eq_true rfl⟩ rfl hl rfl (Nat.le_of_ble_eq_true rfl) dX10_laneTold_40 ⟨Nat.le_of_ble_eq_true rfl, Nat.le_of_ble_eq_true rfl⟩) (fun r8 V6 H locs h hS => ?_)
      exact g_iret hC hr hlk hS h dX10_laneTold_43
    · have h := h.1 c9
      refine lv_aload_n hC.1 hC.2.1 dX10_laneTold_23 rfl (lv_at hl 0 rfl) ?_
      obtain ⟨hk1, h⟩ := h
      refine gf_15_11 hC hS hk1 wq_1065 dX10_laneTold_24 ?_
      obtain ⟨hk2, h⟩ := h
      refine gn_16_3 hC hS hk2 wq_983 dX10_laneTold_27 ?_
      refine lv_iload_n hC.1 hC.2.1 dX10_laneTold_30 rfl (lv_at hl 1 rfl) ?_
      obtain ⟨hk3, h⟩ := h
      obtain ⟨hx4, h⟩ := h
      refine g_iald hC hS hk3 (by decide) hx4 dX10_laneTold_31 ?_
      refine lv_goto (tgt := 43) hC.1 hC.2.1 dX10_laneTold_32 (by decide) ?_
      exact g_iret hC hr hlk hS h dX10_laneTold_43
  · have h := h.2 c13
    refine lv_aload_n hC.1 hC.2.1 dX10_laneTold_5 rfl (lv_at hl 0 rfl) ?_
    obtain ⟨hk10, h⟩ := h
    refine gf_15_3 hC hS hk10 wq_1049 dX10_laneTold_6 ?_
    refine lv_iconst (v := 4) hC.1 hC.2.1 dX10_laneTold_9 (by decide) ?_
    refine lv_iload_n hC.1 hC.2.1 dX10_laneTold_10 rfl (lv_at hl 1 rfl) ?_
    refine lv_imul hC.1 hC.2.1 dX10_laneTold_11 ?_
    refine lv_iload_n hC.1 hC.2.1 dX10_laneTold_12 rfl (lv_at hl 2 rfl) ?_
    refine lv_iadd hC.1 hC.2.1 dX10_laneTold_13 ?_
    obtain ⟨hk11, h⟩ := h
    obtain ⟨hx12, h⟩ := h
    refine g_iald hC hS hk11 (by decide) hx12 dX10_laneTold_14 ?_
    refine lv_goto (tgt := 43) hC.1 hC.2.1 dX10_laneTold_15 (by decide) ?_
    exact g_iret hC hr hlk hS h dX10_laneTold_43
def wp_X10_lane (ks : List KY) (a1 : Int32) (a2 : Int32) (V : VS) (post : Int32 → VS → Prop) : Prop := ((15, 0, 0) ∈ ks ∧ ∀ V2 : VS, V2 = vup V 15 0 0 0 0 0 → wp_X10_isIn ks a1 0 ((V2 15 0 0 2 0) - 1) V2 (fun r4 V3 => ((r4 = 0 → (wp_X10_no ks 1 V3 (fun r6 V5 => (post r6 V5)))) ∧ (¬ (r4 = 0) → (wp_X10_isIn ks a2 0 5 V3 (fun r8 V7 => ((r8 = 0 → (wp_X10_no ks 1 V7 (fun r10 V9 => (post r10 V9)))) ∧ (¬ (r8 = 0) → (wp_X10_laneTold ks a1 a2 V7 (fun r12 V11 => (post r12 V11)))))))))))
set_option maxHeartbeats 4000000 in
set_option maxRecDepth 100000 in
theorem c_X10_lane (l : Launch) (G : GG) (ks : List KY) (ad : AD) (a1 : Int32) (a2 : Int32) (V : VS) (post : Int32 → VS → Prop) (h : wp_X10_lane ks a1 a2 V post) (sz : Nat) : Met l yX10_lane (ws_ yX10_lane cX10_lane 3 (some .int)) ({ frames := 2, cells := 0, slots := 0, locals := 43 }) (mPc [.ref (ad 15 0 0), .int a1, .int a2] G ks ad V sz) (mQi post G ks ad sz) 0 0 (mA ks ad sz) := by
  refine g_met (own := RX10) (by decide) rfl (Nat.le_of_ble_eq_true rfl) ?_
  intro p e s m args below meth c ls hC hsz hr hlk hin hS ha hl
  have hl : lv_has ls 3 [(0, .ref (ad 15 0 0)), (1, .int a1), (2, .int a2)] := hl
  unfold wp_X10_lane at h
  refine lv_aload_n hC.1 hC.2.1 dX10_lane_0 rfl (lv_at hl 0 rfl) ?_
  refine lv_iconst (v := 0) hC.1 hC.2.1 dX10_lane_1 (by decide) ?_
  obtain ⟨hk1, h⟩ := h
  refine pf_15_0 hC hS hk1 wq_1044 dX10_lane_2 (fun H locs hS => ?_)
  obtain ⟨V2, eV2⟩ : ∃ z : VS, z = vup V 15 0 0 0 0 0 := ⟨_, rfl⟩
  rw [← eV2] at hS
  have h := h V2 eV2
  refine lv_iload_n hC.1 hC.2.1 dX10_lane_5 rfl (lv_at hl 1 rfl) ?_
  refine lv_iconst (v := 0) hC.1 hC.2.1 dX10_lane_6 (by decide) ?_
  refine lv_aload_n hC.1 hC.2.1 dX10_lane_7 rfl (lv_at hl 0 rfl) ?_
  refine gf_15_2 hC hS hk1 wq_1048 dX10_lane_8 ?_
  refine lv_iconst (v := 1) hC.1 hC.2.1 dX10_lane_11 (by decide) ?_
  refine lv_isub hC.1 hC.2.1 dX10_lane_12 ?_
  refine g_calli0 hS (g_runS (n := 3) (rest := []) (As := [.int a1, .int 0, .int ((V2 15 0 0 2 0) - 1)]) hC hS (c_X10_isIn l G ks ad a1 0 ((V2 15 0 0 2 0) - 1) V2 _ h _) (gIS wq_1114 wq_1115 wq_46 wq_1116) ⟨⟨by decide +kernel, by decide +kernel, by decide +kernel⟩, rfl, rfl, Nat.le_of_ble_eq_true rfl, Nat.le_of_ble_eq_true rfl⟩ rfl hl rfl (Nat.le_of_ble_eq_true rfl) dX10_lane_13 ⟨Nat.le_of_ble_eq_true rfl, Nat.le_of_ble_eq_true rfl⟩) (fun r4 V3 H locs h hS => ?_)
  refine lv_if_eq (tgt := 37) hC.1 hC.2.1 dX10_lane_16 (by decide) (fun c14 => ?_) (fun c14 => ?_)
  · have h := h.1 c14
    refine lv_aload_n hC.1 hC.2.1 dX10_lane_37 rfl (lv_at hl 0 rfl) ?_
    refine lv_iconst (v := 1) hC.1 hC.2.1 dX10_lane_38 (by decide) ?_
    refine g_calli0 hS (g_runV (n := 1) (rest := []) (As := [.int 1]) (C := RX10) (T := TX10) (N := 13) hC hS hk1 rfl rfl (c_X10_no l G ks ad 1 V3 _ h _) (gI wq_1102 wq_1104 wq_23 wq_46 wq_1105) rfl ⟨⟨by decide +kernel, by decide +kernel, by decide +kernel⟩, rfl, rfl, Nat.le_of_ble_eq_true rfl, Nat.le_of_ble_eq_true rfl⟩ rfl hl rfl (Nat.le_of_ble_eq_true rfl) dX10_lane_39 ⟨Nat.le_of_ble_eq_true rfl, Nat.le_of_ble_eq_true rfl⟩) (fun r6 V5 H locs h hS => ?_)
    exact g_iret hC hr hlk hS h dX10_lane_42
  · have h := h.2 c14
    refine lv_iload_n hC.1 hC.2.1 dX10_lane_19 rfl (lv_at hl 2 rfl) ?_
    refine lv_iconst (v := 0) hC.1 hC.2.1 dX10_lane_20 (by decide) ?_
    refine lv_iconst (v := 5) hC.1 hC.2.1 dX10_lane_21 (by decide) ?_
    refine g_calli0 hS (g_runS (n := 3) (rest := []) (As := [.int a2, .int 0, .int 5]) hC hS (c_X10_isIn l G ks ad a2 0 5 V3 _ h _) (gIS wq_1114 wq_1115 wq_46 wq_1116) ⟨⟨by decide +kernel, by decide +kernel, by decide +kernel⟩, rfl, rfl, Nat.le_of_ble_eq_true rfl, Nat.le_of_ble_eq_true rfl⟩ rfl hl rfl (Nat.le_of_ble_eq_true rfl) dX10_lane_22 ⟨Nat.le_of_ble_eq_true rfl, Nat.le_of_ble_eq_true rfl⟩) (fun r8 V7 H locs h hS => ?_)
    refine lv_if_eq (tgt := 37) hC.1 hC.2.1 dX10_lane_25 (by decide) (fun c13 => ?_) (fun c13 => ?_)
    · have h := h.1 c13
      refine lv_aload_n hC.1 hC.2.1 dX10_lane_37 rfl (lv_at hl 0 rfl) ?_
      refine lv_iconst (v := 1) hC.1 hC.2.1 dX10_lane_38 (by decide) ?_
      refine g_calli0 hS (g_runV (n := 1) (rest := []) (As := [.int 1]) (C := RX10) (T := TX10) (N := 13) hC hS hk1 rfl rfl (c_X10_no l G ks ad 1 V7 _ h _) (gI wq_1102 wq_1104 wq_23 wq_46 wq_1105) rfl ⟨⟨by decide +kernel, by decide +kernel, by decide +kernel⟩, rfl, rfl, Nat.le_of_ble_eq_true rfl, Nat.le_of_ble_eq_true rfl⟩ rfl hl rfl (Nat.le_of_ble_eq_true rfl) dX10_lane_39 ⟨Nat.le_of_ble_eq_true rfl, Nat.le_of_ble_eq_true rfl⟩) (fun r10 V9 H locs h hS => ?_)
      exact g_iret hC hr hlk hS h dX10_lane_42
    · have h := h.2 c13
      refine lv_aload_n hC.1 hC.2.1 dX10_lane_28 rfl (lv_at hl 0 rfl) ?_
      refine lv_iload_n hC.1 hC.2.1 dX10_lane_29 rfl (lv_at hl 1 rfl) ?_
      refine lv_iload_n hC.1 hC.2.1 dX10_lane_30 rfl (lv_at hl 2 rfl) ?_
      refine g_calli0 hS (g_runV (n := 2) (rest := []) (As := [.int a1, .int a2]) (C := RX10) (T := TX10) (N := 13) hC hS hk1 rfl rfl (c_X10_laneTold l G ks ad a1 a2 V7 _ h _) (gI wq_1139 wq_1141 wq_26 wq_46 wq_1142) rfl ⟨⟨by decide +kernel, by decide +kernel, by decide +kernel⟩, rfl, rfl, Nat.le_of_ble_eq_true rfl, Nat.le_of_ble_eq_true rfl⟩ rfl hl rfl (Nat.le_of_ble_eq_true rfl) dX10_lane_31 ⟨Nat.le_of_ble_eq_true rfl, Nat.le_of_ble_eq_true rfl⟩) (fun r12 V11 H locs h hS => ?_)
      refine lv_goto (tgt := 42) hC.1 hC.2.1 dX10_lane_34 (by decide) ?_
      exact g_iret hC hr hlk hS h dX10_lane_42
def wp_X10_way (ks : List KY) (a1 : Int32) (a2 : Int32) (V : VS) (post : Int32 → VS → Prop) : Prop := ((15, 0, 0) ∈ ks ∧ ∀ V2 : VS, V2 = vup V 15 0 0 0 0 0 → wp_X10_isHalt ks a1 V2 (fun r4 V3 => ((r4 = 0 → (wp_X10_no ks 1 V3 (fun r6 V5 => (post r6 V5)))) ∧ (¬ (r4 = 0) → (wp_X10_isHalt ks a2 V3 (fun r8 V7 => ((r8 = 0 → (wp_X10_no ks 1 V7 (fun r10 V9 => (post r10 V9)))) ∧ (¬ (r8 = 0) → ((16, 0, 0) ∈ ks ∧ wp_X9_find ks 0 V7 (fun V11 => ((21, 0, 0) ∈ ks ∧ vp_in ((8 * a1) + a2) 64 ∧ ((1000000 : Int32) ≤ (V11 21 0 0 0 ((8 * a1) + a2).toNatClampNeg) → (post (-1) V11)) ∧ (¬ ((1000000 : Int32) ≤ (V11 21 0 0 0 ((8 * a1) + a2).toNatClampNeg)) → (post (V11 21 0 0 0 ((8 * a1) + a2).toNatClampNeg) V11)))))))))))))
set_option maxHeartbeats 4000000 in
set_option maxRecDepth 100000 in
theorem c_X10_way (l : Launch) (G : GG) (ks : List KY) (ad : AD) (a1 : Int32) (a2 : Int32) (V : VS) (post : Int32 → VS → Prop) (h : wp_X10_way ks a1 a2 V post) (sz : Nat) : Met l yX10_way (ws_ yX10_way cX10_way 3 (some .int)) ({ frames := 2, cells := 0, slots := 0, locals := 47 }) (mPc [.ref (ad 15 0 0), .int a1, .int a2] G ks ad V sz) (mQi post G ks ad sz) 0 0 (mA ks ad sz) := by
  refine g_met (own := RX10) (by decide) rfl (Nat.le_of_ble_eq_true rfl) ?_
  intro p e s m args below meth c ls hC hsz hr hlk hin hS ha hl
  have hl : lv_has ls 3 [(0, .ref (ad 15 0 0)), (1, .int a1), (2, .int a2)] := hl
  unfold wp_X10_way at h
  refine lv_aload_n hC.1 hC.2.1 dX10_way_0 rfl (lv_at hl 0 rfl) ?_
  refine lv_iconst (v := 0) hC.1 hC.2.1 dX10_way_1 (by decide) ?_
  obtain ⟨hk1, h⟩ := h
  refine pf_15_0 hC hS hk1 wq_1044 dX10_way_2 (fun H locs hS => ?_)
  obtain ⟨V2, eV2⟩ : ∃ z : VS, z = vup V 15 0 0 0 0 0 := ⟨_, rfl⟩
  rw [← eV2] at hS
  have h := h V2 eV2
  refine lv_aload_n hC.1 hC.2.1 dX10_way_5 rfl (lv_at hl 0 rfl) ?_
  refine lv_iload_n hC.1 hC.2.1 dX10_way_6 rfl (lv_at hl 1 rfl) ?_
  refine g_calli0 hS (g_runV (n := 1) (rest := []) (As := [.int a1]) (C := RX10) (T := TX10) (N := 13) hC hS hk1 rfl rfl (c_X10_isHalt l G ks ad a1 V2 _ h _) (gI wq_1110 wq_1112 wq_24 wq_46 wq_1113) rfl ⟨⟨by decide +kernel, by decide +kernel, by decide +kernel⟩, rfl, rfl, Nat.le_of_ble_eq_true rfl, Nat.le_of_ble_eq_true rfl⟩ rfl hl rfl (Nat.le_of_ble_eq_true rfl) dX10_way_7 ⟨Nat.le_of_ble_eq_true rfl, Nat.le_of_ble_eq_true rfl⟩) (fun r4 V3 H locs h hS => ?_)
  refine lv_if_eq (tgt := 21) hC.1 hC.2.1 dX10_way_10 (by decide) (fun c17 => ?_) (fun c17 => ?_)
  · have h := h.1 c17
    refine lv_aload_n hC.1 hC.2.1 dX10_way_21 rfl (lv_at hl 0 rfl) ?_
    refine lv_iconst (v := 1) hC.1 hC.2.1 dX10_way_22 (by decide) ?_
    refine g_calli0 hS (g_runV (n := 1) (rest := []) (As := [.int 1]) (C := RX10) (T := TX10) (N := 13) hC hS hk1 rfl rfl (c_X10_no l G ks ad 1 V3 _ h _) (gI wq_1102 wq_1104 wq_23 wq_46 wq_1105) rfl ⟨⟨by decide +kernel, by decide +kernel, by decide +kernel⟩, rfl, rfl, Nat.le_of_ble_eq_true rfl, Nat.le_of_ble_eq_true rfl⟩ rfl hl rfl (Nat.le_of_ble_eq_true rfl) dX10_way_23 ⟨Nat.le_of_ble_eq_true rfl, Nat.le_of_ble_eq_true rfl⟩) (fun r6 V5 H locs h hS => ?_)
    exact g_iret hC hr hlk hS h dX10_way_26
  · have h := h.2 c17
    refine lv_aload_n hC.1 hC.2.1 dX10_way_13 rfl (lv_at hl 0 rfl) ?_
    refine lv_iload_n hC.1 hC.2.1 dX10_way_14 rfl (lv_at hl 2 rfl) ?_
    refine g_calli0 hS (g_runV (n := 1) (rest := []) (As := [.int a2]) (C := RX10) (T := TX10) (N := 13) hC hS hk1 rfl rfl (c_X10_isHalt l G ks ad a2 V3 _ h _) (gI wq_1110 wq_1112 wq_24 wq_46 wq_1113) rfl ⟨⟨by decide +kernel, by decide +kernel, by decide +kernel⟩, rfl, rfl, Nat.le_of_ble_eq_true rfl, Nat.le_of_ble_eq_true rfl⟩ rfl hl rfl (Nat.le_of_ble_eq_true rfl) dX10_way_15 ⟨Nat.le_of_ble_eq_true rfl, Nat.le_of_ble_eq_true rfl⟩) (fun r8 V7 H locs h hS => ?_)
    refine lv_if_ne (tgt := 27) hC.1 hC.2.1 dX10_way_18 (by decide) (fun c16 => ?_) (fun c16 => ?_)
    · have h := h.2 c16
      refine lv_aload_n hC.1 hC.2.1 dX10_way_27 rfl (lv_at hl 0 rfl) ?_
      refine gf_15_11 hC hS hk1 wq_1065 dX10_way_28 ?_
      obtain ⟨hk12, h⟩ := h
      refine g_callv0 hS (g_runV (n := 0) (rest := []) (As := []) (C := RX9) (T := TX9) (N := 17) hC hS hk12 rfl rfl (c_X9_find l G ks ad 0 V7 _ h _) (gI wq_1151 wq_1152 wq_1153 wq_47 wq_1154) rfl ⟨⟨by decide +kernel, by decide +kernel, by decide +kernel⟩, rfl, rfl, Nat.le_of_ble_eq_true rfl, Nat.le_of_ble_eq_true rfl⟩ rfl hl rfl (Nat.le_of_ble_eq_true rfl) dX10_way_31 ⟨Nat.le_of_ble_eq_true rfl, Nat.le_of_ble_eq_true rfl⟩) (fun V11 H locs h hS => ?_)
      refine lv_aload_n hC.1 hC.2.1 dX10_way_34 rfl (lv_at hl 0 rfl) ?_
      refine gf_15_10 hC hS hk1 wq_1063 dX10_way_35 ?_
      refine lv_bipush (v := 8) hC.1 hC.2.1 dX10_way_38 (by decide) ?_
      refine lv_iload_n hC.1 hC.2.1 dX10_way_40 rfl (lv_at hl 1 rfl) ?_
      refine lv_imul hC.1 hC.2.1 dX10_way_41 ?_
      refine lv_iload_n hC.1 hC.2.1 dX10_way_42 rfl (lv_at hl 2 rfl) ?_
      refine lv_iadd hC.1 hC.2.1 dX10_way_43 ?_
      obtain ⟨hk13, h⟩ := h
      obtain ⟨hx14, h⟩ := h
      refine g_iald hC hS hk13 (by decide) hx14 dX10_way_44 ?_
      refine lv_ldc hC.1 hC.2.1 hC.2.2.2.1 (hC.2.2.2.2.1 _ wq_1161) dX10_way_45 ?_
      refine lv_icmp_ge (tgt := 64) hC.1 hC.2.1 dX10_way_47 (by decide) (fun c15 => ?_) (fun c15 => ?_)
      · have h := h.1 c15
        refine lv_iconst (v := (-1)) hC.1 hC.2.1 dX10_way_64 (by decide) ?_
        exact g_iret hC hr hlk hS h dX10_way_65
      · have h := h.2 c15
        refine lv_aload_n hC.1 hC.2.1 dX10_way_50 rfl (lv_at hl 0 rfl) ?_
        refine gf_15_10 hC hS hk1 wq_1063 dX10_way_51 ?_
        refine lv_bipush (v := 8) hC.1 hC.2.1 dX10_way_54 (by decide) ?_
        refine lv_iload_n hC.1 hC.2.1 dX10_way_56 rfl (lv_at hl 1 rfl) ?_
        refine lv_imul hC.1 hC.2.1 dX10_way_57 ?_
        refine lv_iload_n hC.1 hC.2.1 dX10_way_58 rfl (lv_at hl 2 rfl) ?_
        refine lv_iadd hC.1 hC.2.1 dX10_way_59 ?_
        refine g_iald hC hS hk13 (by decide) hx14 dX10_way_60 ?_
        refine lv_goto (tgt := 65) hC.1 hC.2.1 dX10_way_61 (by decide) ?_
        exact g_iret hC hr hlk hS h dX10_way_65
    · have h := h.1 c16
      refine lv_aload_n hC.1 hC.2.1 dX10_way_21 rfl (lv_at hl 0 rfl) ?_
      refine lv_iconst (v := 1) hC.1 hC.2.1 dX10_way_22 (by decide) ?_
      refine g_calli0 hS (g_runV (n := 1) (rest := []) (As := [.int 1]) (C := RX10) (T := TX10) (N := 13) hC hS hk1 rfl rfl (c_X10_no l G ks ad 1 V7 _ h _) (gI wq_1102 wq_1104 wq_23 wq_46 wq_1105) rfl ⟨⟨by decide +kernel, by decide +kernel, by decide +kernel⟩, rfl, rfl, Nat.le_of_ble_eq_true rfl, Nat.le_of_ble_eq_true rfl⟩ rfl hl rfl (Nat.le_of_ble_eq_true rfl) dX10_way_23 ⟨Nat.le_of_ble_eq_true rfl, Nat.le_of_ble_eq_true rfl⟩) (fun r10 V9 H locs h hS => ?_)
      exact g_iret hC hr hlk hS h dX10_way_26
def wp_X10_addBook (ks : List KY) (a1 : Int32) (V : VS) (post : Int32 → VS → Prop) : Prop := ((15, 0, 0) ∈ ks ∧ ∀ V2 : VS, V2 = vup V 15 0 0 0 0 0 → wp_X10_isIn ks a1 0 5 V2 (fun r4 V3 => ((r4 = 0 → (wp_X10_no ks 1 V3 (fun r6 V5 => (post r6 V5)))) ∧ (¬ (r4 = 0) → (((V3 15 0 0 6 0) = 24 → (wp_X10_no ks 2 V3 (fun r8 V7 => (post r8 V7)))) ∧ (¬ ((V3 15 0 0 6 0) = 24) → ((19, 0, 0) ∈ ks ∧ vp_in (V3 15 0 0 6 0) 24 ∧ ∀ V11 : VS, V11 = vup V3 19 0 0 0 (V3 15 0 0 6 0).toNatClampNeg a1 → (16, 0, 0) ∈ ks ∧ (26, 0, 0) ∈ ks ∧ vp_in (V11 15 0 0 6 0) 24 ∧ ∀ V15 : VS, V15 = vup V11 26 0 0 0 (V11 15 0 0 6 0).toNatClampNeg (-1) → ∀ V16 : VS, V16 = vup V15 15 0 0 6 0 ((V15 15 0 0 6 0) + 1) → post ((V16 15 0 0 6 0) - 1) V16)))))))
set_option maxHeartbeats 4000000 in
set_option maxRecDepth 100000 in
theorem c_X10_addBook (l : Launch) (G : GG) (ks : List KY) (ad : AD) (a1 : Int32) (V : VS) (post : Int32 → VS → Prop) (h : wp_X10_addBook ks a1 V post) (sz : Nat) : Met l yX10_addBook (ws_ yX10_addBook cX10_addBook 2 (some .int)) ({ frames := 1, cells := 0, slots := 0, locals := 22 }) (mPc [.ref (ad 15 0 0), .int a1] G ks ad V sz) (mQi post G ks ad sz) 0 0 (mA ks ad sz) := by
  refine g_met (own := RX10) (by decide) rfl (Nat.le_of_ble_eq_true rfl) ?_
  intro p e s m args below meth c ls hC hsz hr hlk hin hS ha hl
  have hl : lv_has ls 2 [(0, .ref (ad 15 0 0)), (1, .int a1)] := hl
  unfold wp_X10_addBook at h
  refine lv_aload_n hC.1 hC.2.1 dX10_addBook_0 rfl (lv_at hl 0 rfl) ?_
  refine lv_iconst (v := 0) hC.1 hC.2.1 dX10_addBook_1 (by decide) ?_
  obtain ⟨hk1, h⟩ := h
  refine pf_15_0 hC hS hk1 wq_1044 dX10_addBook_2 (fun H locs hS => ?_)
  obtain ⟨V2, eV2⟩ : ∃ z : VS, z = vup V 15 0 0 0 0 0 := ⟨_, rfl⟩
  rw [← eV2] at hS
  have h := h V2 eV2
  refine lv_iload_n hC.1 hC.2.1 dX10_addBook_5 rfl (lv_at hl 1 rfl) ?_
  refine lv_iconst (v := 0) hC.1 hC.2.1 dX10_addBook_6 (by decide) ?_
  refine lv_iconst (v := 5) hC.1 hC.2.1 dX10_addBook_7 (by decide) ?_
  refine g_calli0 hS (g_runS (n := 3) (rest := []) (As := [.int a1, .int 0, .int 5]) hC hS (c_X10_isIn l G ks ad a1 0 5 V2 _ h _) (gIS wq_1114 wq_1115 wq_46 wq_1116) ⟨⟨by decide +kernel, by decide +kernel, by decide +kernel⟩, rfl, rfl, Nat.le_of_ble_eq_true rfl, Nat.le_of_ble_eq_true rfl⟩ rfl hl rfl (Nat.le_of_ble_eq_true rfl) dX10_addBook_8 ⟨Nat.le_of_ble_eq_true rfl, Nat.le_of_ble_eq_true rfl⟩) (fun r4 V3 H locs h hS => ?_)
  refine lv_if_ne (tgt := 20) hC.1 hC.2.1 dX10_addBook_11 (by decide) (fun c18 => ?_) (fun c18 => ?_)
  · have h := h.2 c18
    refine lv_aload_n hC.1 hC.2.1 dX10_addBook_20 rfl (lv_at hl 0 rfl) ?_
    refine gf_15_6 hC hS hk1 wq_1055 dX10_addBook_21 ?_
    refine lv_bipush (v := 24) hC.1 hC.2.1 dX10_addBook_24 (by decide) ?_
    refine lv_icmp_ne (tgt := 35) hC.1 hC.2.1 dX10_addBook_26 (by decide) (fun c17 => ?_) (fun c17 => ?_)
    · have h := h.2 c17
      refine lv_aload_n hC.1 hC.2.1 dX10_addBook_35 rfl (lv_at hl 0 rfl) ?_
      refine gf_15_7 hC hS hk1 wq_1057 dX10_addBook_36 ?_
      refine lv_aload_n hC.1 hC.2.1 dX10_addBook_39 rfl (lv_at hl 0 rfl) ?_
      refine gf_15_6 hC hS hk1 wq_1055 dX10_addBook_40 ?_
      refine lv_iload_n hC.1 hC.2.1 dX10_addBook_43 rfl (lv_at hl 1 rfl) ?_
      obtain ⟨hk9, h⟩ := h
      obtain ⟨hx10, h⟩ := h
      refine g_iast hC hS hk9 (by decide) hx10 dX10_addBook_44 (fun H locs hS => ?_)
      obtain ⟨V11, eV11⟩ : ∃ z : VS, z = vup V3 19 0 0 0 (V3 15 0 0 6 0).toNatClampNeg a1 := ⟨_, rfl⟩
      rw [← eV11] at hS
      have h := h V11 eV11
      refine lv_aload_n hC.1 hC.2.1 dX10_addBook_45 rfl (lv_at hl 0 rfl) ?_
      refine gf_15_11 hC hS hk1 wq_1065 dX10_addBook_46 ?_
      obtain ⟨hk12, h⟩ := h
      refine gn_16_8 hC hS hk12 wq_993 dX10_addBook_49 ?_
      refine lv_aload_n hC.1 hC.2.1 dX10_addBook_52 rfl (lv_at hl 0 rfl) ?_
      refine gf_15_6 hC hS hk1 wq_1055 dX10_addBook_53 ?_
      refine lv_iconst (v := (-1)) hC.1 hC.2.1 dX10_addBook_56 (by decide) ?_
      obtain ⟨hk13, h⟩ := h
      obtain ⟨hx14, h⟩ := h
      refine g_iast hC hS hk13 (by decide) hx14 dX10_addBook_57 (fun H locs hS => ?_)
      obtain ⟨V15, eV15⟩ : ∃ z : VS, z = vup V11 26 0 0 0 (V11 15 0 0 6 0).toNatClampNeg (-1) := ⟨_, rfl⟩
      rw [← eV15] at hS
      have h := h V15 eV15
      refine lv_aload_n hC.1 hC.2.1 dX10_addBook_58 rfl (lv_at hl 0 rfl) ?_
      refine lv_dup hC.1 hC.2.1 dX10_addBook_59 rfl ?_
      refine gf_15_6 hC hS hk1 wq_1055 dX10_addBook_60 ?_
      refine lv_iconst (v := 1) hC.1 hC.2.1 dX10_addBook_63 (by decide) ?_
      refine lv_iadd hC.1 hC.2.1 dX10_addBook_64 ?_
      refine pf_15_6 hC hS hk1 wq_1055 dX10_addBook_65 (fun H locs hS => ?_)
      obtain ⟨V16, eV16⟩ : ∃ z : VS, z = vup V15 15 0 0 6 0 ((V15 15 0 0 6 0) + 1) := ⟨_, rfl⟩
      rw [← eV16] at hS
      have h := h V16 eV16
      refine lv_aload_n hC.1 hC.2.1 dX10_addBook_68 rfl (lv_at hl 0 rfl) ?_
      refine gf_15_6 hC hS hk1 wq_1055 dX10_addBook_69 ?_
      refine lv_iconst (v := 1) hC.1 hC.2.1 dX10_addBook_72 (by decide) ?_
      refine lv_isub hC.1 hC.2.1 dX10_addBook_73 ?_
      exact g_iret hC hr hlk hS h dX10_addBook_74
    · have h := h.1 c17
      refine lv_aload_n hC.1 hC.2.1 dX10_addBook_29 rfl (lv_at hl 0 rfl) ?_
      refine lv_iconst (v := 2) hC.1 hC.2.1 dX10_addBook_30 (by decide) ?_
      refine g_calli0 hS (g_runV (n := 1) (rest := []) (As := [.int 2]) (C := RX10) (T := TX10) (N := 13) hC hS hk1 rfl rfl (c_X10_no l G ks ad 2 V3 _ h _) (gI wq_1102 wq_1104 wq_23 wq_46 wq_1105) rfl ⟨⟨by decide +kernel, by decide +kernel, by decide +kernel⟩, rfl, rfl, Nat.le_of_ble_eq_true rfl, Nat.le_of_ble_eq_true rfl⟩ rfl hl rfl (Nat.le_of_ble_eq_true rfl) dX10_addBook_31 ⟨Nat.le_of_ble_eq_true rfl, Nat.le_of_ble_eq_true rfl⟩) (fun r8 V7 H locs h hS => ?_)
      exact g_iret hC hr hlk hS h dX10_addBook_34
  · have h := h.1 c18
    refine lv_aload_n hC.1 hC.2.1 dX10_addBook_14 rfl (lv_at hl 0 rfl) ?_
    refine lv_iconst (v := 1) hC.1 hC.2.1 dX10_addBook_15 (by decide) ?_
    refine g_calli0 hS (g_runV (n := 1) (rest := []) (As := [.int 1]) (C := RX10) (T := TX10) (N := 13) hC hS hk1 rfl rfl (c_X10_no l G ks ad 1 V3 _ h _) (gI wq_1102 wq_1104 wq_23 wq_46 wq_1105) rfl ⟨⟨by decide +kernel, by decide +kernel, by decide +kernel⟩, rfl, rfl, Nat.le_of_ble_eq_true rfl, Nat.le_of_ble_eq_true rfl⟩ rfl hl rfl (Nat.le_of_ble_eq_true rfl) dX10_addBook_16 ⟨Nat.le_of_ble_eq_true rfl, Nat.le_of_ble_eq_true rfl⟩) (fun r6 V5 H locs h hS => ?_)
    exact g_iret hC hr hlk hS h dX10_addBook_19
def wp_X10_reserve (ks : List KY) (a1 : Int32) (a2 : Int32) (V : VS) (post : Int32 → VS → Prop) : Prop := ((15, 0, 0) ∈ ks ∧ ∀ V2 : VS, V2 = vup V 15 0 0 0 0 0 → wp_X10_isReader ks a1 V2 (fun r4 V3 => ((r4 = 0 → (wp_X10_no ks 1 V3 (fun r6 V5 => (post r6 V5)))) ∧ (¬ (r4 = 0) → (wp_X10_isBook ks a2 V3 (fun r8 V7 => ((r8 = 0 → (wp_X10_no ks 1 V7 (fun r10 V9 => (post r10 V9)))) ∧ (¬ (r8 = 0) → ((16, 0, 0) ∈ ks ∧ wp_X9_placeOf ks 0 a1 a2 V7 (fun r13 V11 => ((r13 = (-1) → ((26, 0, 0) ∈ ks ∧ vp_in a2 24 ∧ ((V11 26 0 0 0 a2.toNatClampNeg) = a1 → (wp_X10_no ks 2 V11 (fun r17 V16 => (post r17 V16)))) ∧ (¬ ((V11 26 0 0 0 a2.toNatClampNeg) = a1) → ((30, 0, 0) ∈ ks ∧ (29, 0, 0) ∈ ks ∧ vp_in ((10 * a2) + (V11 30 0 0 0 a2.toNatClampNeg)) 240 ∧ ∀ V21 : VS, V21 = vup V11 29 0 0 0 ((10 * a2) + (V11 30 0 0 0 a2.toNatClampNeg)).toNatClampNeg a1 → ∀ V22 : VS, V22 = vup V21 30 0 0 0 a2.toNatClampNeg ((V21 30 0 0 0 a2.toNatClampNeg) + 1) → post (V22 30 0 0 0 a2.toNatClampNeg) V22)))) ∧ (¬ (r13 = (-1)) → (wp_X10_no ks 2 V11 (fun r25 V24 => (post r25 V24)))))))))))))))
set_option maxHeartbeats 4000000 in
set_option maxRecDepth 100000 in
theorem c_X10_reserve (l : Launch) (G : GG) (ks : List KY) (ad : AD) (a1 : Int32) (a2 : Int32) (V : VS) (post : Int32 → VS → Prop) (h : wp_X10_reserve ks a1 a2 V post) (sz : Nat) : Met l yX10_reserve (ws_ yX10_reserve cX10_reserve 3 (some .int)) ({ frames := 2, cells := 0, slots := 0, locals := 43 }) (mPc [.ref (ad 15 0 0), .int a1, .int a2] G ks ad V sz) (mQi post G ks ad sz) 0 0 (mA ks ad sz) := by
  refine g_met (own := RX10) (by decide) rfl (Nat.le_of_ble_eq_true rfl) ?_
  intro p e s m args below meth c ls hC hsz hr hlk hin hS ha hl
  have hl : lv_has ls 3 [(0, .ref (ad 15 0 0)), (1, .int a1), (2, .int a2)] := hl
  unfold wp_X10_reserve at h
  refine lv_aload_n hC.1 hC.2.1 dX10_reserve_0 rfl (lv_at hl 0 rfl) ?_
  refine lv_iconst (v := 0) hC.1 hC.2.1 dX10_reserve_1 (by decide) ?_
  obtain ⟨hk1, h⟩ := h
  refine pf_15_0 hC hS hk1 wq_1044 dX10_reserve_2 (fun H locs hS => ?_)
  obtain ⟨V2, eV2⟩ : ∃ z : VS, z = vup V 15 0 0 0 0 0 := ⟨_, rfl⟩
  rw [← eV2] at hS
  have h := h V2 eV2
  refine lv_aload_n hC.1 hC.2.1 dX10_reserve_5 rfl (lv_at hl 0 rfl) ?_
  refine lv_iload_n hC.1 hC.2.1 dX10_reserve_6 rfl (lv_at hl 1 rfl) ?_
  refine g_calli0 hS (g_runV (n := 1) (rest := []) (As := [.int a1]) (C := RX10) (T := TX10) (N := 13) hC hS hk1 rfl rfl (c_X10_isReader l G ks ad a1 V2 _ h _) (gI wq_1174 wq_1176 wq_28 wq_46 wq_1177) rfl ⟨⟨by decide +kernel, by decide +kernel, by decide +kernel⟩, rfl, rfl, Nat.le_of_ble_eq_true rfl, Nat.le_of_ble_eq_true rfl⟩ rfl hl rfl (Nat.le_of_ble_eq_true rfl) dX10_reserve_7 ⟨Nat.le_of_ble_eq_true rfl, Nat.le_of_ble_eq_true rfl⟩) (fun r4 V3 H locs h hS => ?_)
  refine lv_if_eq (tgt := 21) hC.1 hC.2.1 dX10_reserve_10 (by decide) (fun c28 => ?_) (fun c28 => ?_)
  · have h := h.1 c28
    refine lv_aload_n hC.1 hC.2.1 dX10_reserve_21 rfl (lv_at hl 0 rfl) ?_
    refine lv_iconst (v := 1) hC.1 hC.2.1 dX10_reserve_22 (by decide) ?_
    refine g_calli0 hS (g_runV (n := 1) (rest := []) (As := [.int 1]) (C := RX10) (T := TX10) (N := 13) hC hS hk1 rfl rfl (c_X10_no l G ks ad 1 V3 _ h _) (gI wq_1102 wq_1104 wq_23 wq_46 wq_1105) rfl ⟨⟨by decide +kernel, by decide +kernel, by decide +kernel⟩, rfl, rfl, Nat.le_of_ble_eq_true rfl, Nat.le_of_ble_eq_true rfl⟩ rfl hl rfl (Nat.le_of_ble_eq_true rfl) dX10_reserve_23 ⟨Nat.le_of_ble_eq_true rfl, Nat.le_of_ble_eq_true rfl⟩) (fun r6 V5 H locs h hS => ?_)
    exact g_iret hC hr hlk hS h dX10_reserve_26
  · have h := h.2 c28
    refine lv_aload_n hC.1 hC.2.1 dX10_reserve_13 rfl (lv_at hl 0 rfl) ?_
    refine lv_iload_n hC.1 hC.2.1 dX10_reserve_14 rfl (lv_at hl 2 rfl) ?_
    refine g_calli0 hS (g_runV (n := 1) (rest := []) (As := [.int a2]) (C := RX10) (T := TX10) (N := 13) hC hS hk1 rfl rfl (c_X10_isBook l G ks ad a2 V3 _ h _) (gI wq_1178 wq_1180 wq_29 wq_46 wq_1181) rfl ⟨⟨by decide +kernel, by decide +kernel, by decide +kernel⟩, rfl, rfl, Nat.le_of_ble_eq_true rfl, Nat.le_of_ble_eq_true rfl⟩ rfl hl rfl (Nat.le_of_ble_eq_true rfl) dX10_reserve_15 ⟨Nat.le_of_ble_eq_true rfl, Nat.le_of_ble_eq_true rfl⟩) (fun r8 V7 H locs h hS => ?_)
    refine lv_if_ne (tgt := 27) hC.1 hC.2.1 dX10_reserve_18 (by decide) (fun c27 => ?_) (fun c27 => ?_)
    · have h := h.2 c27
      refine lv_aload_n hC.1 hC.2.1 dX10_reserve_27 rfl (lv_at hl 0 rfl) ?_
      refine gf_15_11 hC hS hk1 wq_1065 dX10_reserve_28 ?_
      refine lv_iload_n hC.1 hC.2.1 dX10_reserve_31 rfl (lv_at hl 1 rfl) ?_
      refine lv_iload_n hC.1 hC.2.1 dX10_reserve_32 rfl (lv_at hl 2 rfl) ?_
      obtain ⟨hk12, h⟩ := h
      refine g_calli0 hS (g_runV (n := 2) (rest := []) (As := [.int a1, .int a2]) (C := RX9) (T := TX9) (N := 17) hC hS hk12 rfl rfl (c_X9_placeOf l G ks ad 0 a1 a2 V7 _ h _) (gI wq_1182 wq_1183 wq_1184 wq_47 wq_1185) rfl ⟨⟨by decide +kernel, by decide +kernel, by decide +kernel⟩, rfl, rfl, Nat.le_of_ble_eq_true rfl, Nat.le_of_ble_eq_true rfl⟩ rfl hl rfl (Nat.le_of_ble_eq_true rfl) dX10_reserve_33 ⟨Nat.le_of_ble_eq_true rfl, Nat.le_of_ble_eq_true rfl⟩) (fun r13 V11 H locs h hS => ?_)
      refine lv_iconst (v := (-1)) hC.1 hC.2.1 dX10_reserve_36 (by decide) ?_
      refine lv_icmp_ne (tgt := 53) hC.1 hC.2.1 dX10_reserve_37 (by decide) (fun c26 => ?_) (fun c26 => ?_)
      · have h := h.2 c26
        refine lv_aload_n hC.1 hC.2.1 dX10_reserve_53 rfl (lv_at hl 0 rfl) ?_
        refine lv_iconst (v := 2) hC.1 hC.2.1 dX10_reserve_54 (by decide) ?_
        refine g_calli0 hS (g_runV (n := 1) (rest := []) (As := [.int 2]) (C := RX10) (T := TX10) (N := 13) hC hS hk1 rfl rfl (c_X10_no l G ks ad 2 V11 _ h _) (gI wq_1102 wq_1104 wq_23 wq_46 wq_1105) rfl ⟨⟨by decide +kernel, by decide +kernel, by decide +kernel⟩, rfl, rfl, Nat.le_of_ble_eq_true rfl, Nat.le_of_ble_eq_true rfl⟩ rfl hl rfl (Nat.le_of_ble_eq_true rfl) dX10_reserve_55 ⟨Nat.le_of_ble_eq_true rfl, Nat.le_of_ble_eq_true rfl⟩) (fun r25 V24 H locs h hS => ?_)
        exact g_iret hC hr hlk hS h dX10_reserve_58
      · have h := h.1 c26
        refine lv_aload_n hC.1 hC.2.1 dX10_reserve_40 rfl (lv_at hl 0 rfl) ?_
        refine gf_15_11 hC hS hk1 wq_1065 dX10_reserve_41 ?_
        refine gn_16_8 hC hS hk12 wq_993 dX10_reserve_44 ?_
        refine lv_iload_n hC.1 hC.2.1 dX10_reserve_47 rfl (lv_at hl 2 rfl) ?_
        obtain ⟨hk14, h⟩ := h
        obtain ⟨hx15, h⟩ := h
        refine g_iald hC hS hk14 (by decide) hx15 dX10_reserve_48 ?_
        refine lv_iload_n hC.1 hC.2.1 dX10_reserve_49 rfl (lv_at hl 1 rfl) ?_
        refine lv_icmp_ne (tgt := 59) hC.1 hC.2.1 dX10_reserve_50 (by decide) (fun c23 => ?_) (fun c23 => ?_)
        · have h := h.2 c23
          refine lv_aload_n hC.1 hC.2.1 dX10_reserve_59 rfl (lv_at hl 0 rfl) ?_
          refine gf_15_11 hC hS hk1 wq_1065 dX10_reserve_60 ?_
          refine gn_16_11 hC hS hk12 wq_999 dX10_reserve_63 ?_
          refine lv_bipush (v := 10) hC.1 hC.2.1 dX10_reserve_66 (by decide) ?_
          refine lv_iload_n hC.1 hC.2.1 dX10_reserve_68 rfl (lv_at hl 2 rfl) ?_
          refine lv_imul hC.1 hC.2.1 dX10_reserve_69 ?_
          refine lv_aload_n hC.1 hC.2.1 dX10_reserve_70 rfl (lv_at hl 0 rfl) ?_
          refine gf_15_11 hC hS hk1 wq_1065 dX10_reserve_71 ?_
          refine gn_16_12 hC hS hk12 wq_1001 dX10_reserve_74 ?_
          refine lv_iload_n hC.1 hC.2.1 dX10_reserve_77 rfl (lv_at hl 2 rfl) ?_
          obtain ⟨hk18, h⟩ := h
          refine g_iald hC hS hk18 (by decide) hx15 dX10_reserve_78 ?_
          refine lv_iadd hC.1 hC.2.1 dX10_reserve_79 ?_
          refine lv_iload_n hC.1 hC.2.1 dX10_reserve_80 rfl (lv_at hl 1 rfl) ?_
          obtain ⟨hk19, h⟩ := h
          obtain ⟨hx20, h⟩ := h
          refine g_iast hC hS hk19 (by decide) hx20 dX10_reserve_81 (fun H locs hS => ?_)
          obtain ⟨V21, eV21⟩ : ∃ z : VS, z = vup V11 29 0 0 0 ((10 * a2) + (V11 30 0 0 0 a2.toNatClampNeg)).toNatClampNeg a1 := ⟨_, rfl⟩
          rw [← eV21] at hS
          have h := h V21 eV21
          refine lv_aload_n hC.1 hC.2.1 dX10_reserve_82 rfl (lv_at hl 0 rfl) ?_
          refine gf_15_11 hC hS hk1 wq_1065 dX10_reserve_83 ?_
          refine gn_16_12 hC hS hk12 wq_1001 dX10_reserve_86 ?_
          refine lv_iload_n hC.1 hC.2.1 dX10_reserve_89 rfl (lv_at hl 2 rfl) ?_
          refine lv_dup2_11 hC.1 hC.2.1 dX10_reserve_90 rfl rfl ?_
          refine g_iald hC hS hk18 (by decide) hx15 dX10_reserve_91 ?_
          refine lv_iconst (v := 1) hC.1 hC.2.1 dX10_reserve_92 (by decide) ?_
          refine lv_iadd hC.1 hC.2.1 dX10_reserve_93 ?_
          refine g_iast hC hS hk18 (by decide) hx15 dX10_reserve_94 (fun H locs hS => ?_)
          obtain ⟨V22, eV22⟩ : ∃ z : VS, z = vup V21 30 0 0 0 a2.toNatClampNeg ((V21 30 0 0 0 a2.toNatClampNeg) + 1) := ⟨_, rfl⟩
          rw [← eV22] at hS
          have h := h V22 eV22
          refine lv_aload_n hC.1 hC.2.1 dX10_reserve_95 rfl (lv_at hl 0 rfl) ?_
          refine gf_15_11 hC hS hk1 wq_1065 dX10_reserve_96 ?_
          refine gn_16_12 hC hS hk12 wq_1001 dX10_reserve_99 ?_
          refine lv_iload_n hC.1 hC.2.1 dX10_reserve_102 rfl (lv_at hl 2 rfl) ?_
          refine g_iald hC hS hk18 (by decide) hx15 dX10_reserve_103 ?_
          exact g_iret hC hr hlk hS h dX10_reserve_104
        · have h := h.1 c23
          refine lv_aload_n hC.1 hC.2.1 dX10_reserve_53 rfl (lv_at hl 0 rfl) ?_
          refine lv_iconst (v := 2) hC.1 hC.2.1 dX10_reserve_54 (by decide) ?_
          refine g_calli0 hS (g_runV (n := 1) (rest := []) (As := [.int 2]) (C := RX10) (T := TX10) (N := 13) hC hS hk1 rfl rfl (c_X10_no l G ks ad 2 V11 _ h _) (gI wq_1102 wq_1104 wq_23 wq_46 wq_1105) rfl ⟨⟨by decide +kernel, by decide +kernel, by decide +kernel⟩, rfl, rfl, Nat.le_of_ble_eq_true rfl, Nat.le_of_ble_eq_true rfl⟩ rfl hl rfl (Nat.le_of_ble_eq_true rfl) dX10_reserve_55 ⟨Nat.le_of_ble_eq_true rfl, Nat.le_of_ble_eq_true rfl⟩) (fun r17 V16 H locs h hS => ?_)
          exact g_iret hC hr hlk hS h dX10_reserve_58
    · have h := h.1 c27
      refine lv_aload_n hC.1 hC.2.1 dX10_reserve_21 rfl (lv_at hl 0 rfl) ?_
      refine lv_iconst (v := 1) hC.1 hC.2.1 dX10_reserve_22 (by decide) ?_
      refine g_calli0 hS (g_runV (n := 1) (rest := []) (As := [.int 1]) (C := RX10) (T := TX10) (N := 13) hC hS hk1 rfl rfl (c_X10_no l G ks ad 1 V7 _ h _) (gI wq_1102 wq_1104 wq_23 wq_46 wq_1105) rfl ⟨⟨by decide +kernel, by decide +kernel, by decide +kernel⟩, rfl, rfl, Nat.le_of_ble_eq_true rfl, Nat.le_of_ble_eq_true rfl⟩ rfl hl rfl (Nat.le_of_ble_eq_true rfl) dX10_reserve_23 ⟨Nat.le_of_ble_eq_true rfl, Nat.le_of_ble_eq_true rfl⟩) (fun r10 V9 H locs h hS => ?_)
      exact g_iret hC hr hlk hS h dX10_reserve_26
def wp_X10_cancel (ks : List KY) (a1 : Int32) (a2 : Int32) (V : VS) (post : Int32 → VS → Prop) : Prop := ((15, 0, 0) ∈ ks ∧ ∀ V2 : VS, V2 = vup V 15 0 0 0 0 0 → wp_X10_isReader ks a1 V2 (fun r4 V3 => ((r4 = 0 → (wp_X10_no ks 1 V3 (fun r6 V5 => (post r6 V5)))) ∧ (¬ (r4 = 0) → (wp_X10_isBook ks a2 V3 (fun r8 V7 => ((r8 = 0 → (wp_X10_no ks 1 V7 (fun r10 V9 => (post r10 V9)))) ∧ (¬ (r8 = 0) → ((16, 0, 0) ∈ ks ∧ wp_X9_placeOf ks 0 a1 a2 V7 (fun r13 V11 => ((r13 = (-1) → (post r13 V11)) ∧ (¬ (r13 = (-1)) → (wp_X9_strike ks 0 a2 r13 V11 (fun V14 => (post r13 V14)))))))))))))))
set_option maxHeartbeats 4000000 in
set_option maxRecDepth 100000 in
theorem c_X10_cancel (l : Launch) (G : GG) (ks : List KY) (ad : AD) (a1 : Int32) (a2 : Int32) (V : VS) (post : Int32 → VS → Prop) (h : wp_X10_cancel ks a1 a2 V post) (sz : Nat) : Met l yX10_cancel (ws_ yX10_cancel cX10_cancel 4 (some .int)) ({ frames := 2, cells := 0, slots := 0, locals := 43 }) (mPc [.ref (ad 15 0 0), .int a1, .int a2] G ks ad V sz) (mQi post G ks ad sz) 0 0 (mA ks ad sz) := by
  refine g_met (own := RX10) (by decide) rfl (Nat.le_of_ble_eq_true rfl) ?_
  intro p e s m args below meth c ls hC hsz hr hlk hin hS ha hl
  have hl : lv_has ls 4 [(0, .ref (ad 15 0 0)), (1, .int a1), (2, .int a2)] := hl
  unfold wp_X10_cancel at h
  refine lv_aload_n hC.1 hC.2.1 dX10_cancel_0 rfl (lv_at hl 0 rfl) ?_
  refine lv_iconst (v := 0) hC.1 hC.2.1 dX10_cancel_1 (by decide) ?_
  obtain ⟨hk1, h⟩ := h
  refine pf_15_0 hC hS hk1 wq_1044 dX10_cancel_2 (fun H locs hS => ?_)
  obtain ⟨V2, eV2⟩ : ∃ z : VS, z = vup V 15 0 0 0 0 0 := ⟨_, rfl⟩
  rw [← eV2] at hS
  have h := h V2 eV2
  refine lv_aload_n hC.1 hC.2.1 dX10_cancel_5 rfl (lv_at hl 0 rfl) ?_
  refine lv_iload_n hC.1 hC.2.1 dX10_cancel_6 rfl (lv_at hl 1 rfl) ?_
  refine g_calli0 hS (g_runV (n := 1) (rest := []) (As := [.int a1]) (C := RX10) (T := TX10) (N := 13) hC hS hk1 rfl rfl (c_X10_isReader l G ks ad a1 V2 _ h _) (gI wq_1174 wq_1176 wq_28 wq_46 wq_1177) rfl ⟨⟨by decide +kernel, by decide +kernel, by decide +kernel⟩, rfl, rfl, Nat.le_of_ble_eq_true rfl, Nat.le_of_ble_eq_true rfl⟩ rfl hl rfl (Nat.le_of_ble_eq_true rfl) dX10_cancel_7 ⟨Nat.le_of_ble_eq_true rfl, Nat.le_of_ble_eq_true rfl⟩) (fun r4 V3 H locs h hS => ?_)
  refine lv_if_eq (tgt := 21) hC.1 hC.2.1 dX10_cancel_10 (by decide) (fun c17 => ?_) (fun c17 => ?_)
  · have h := h.1 c17
    refine lv_aload_n hC.1 hC.2.1 dX10_cancel_21 rfl (lv_at hl 0 rfl) ?_
    refine lv_iconst (v := 1) hC.1 hC.2.1 dX10_cancel_22 (by decide) ?_
    refine g_calli0 hS (g_runV (n := 1) (rest := []) (As := [.int 1]) (C := RX10) (T := TX10) (N := 13) hC hS hk1 rfl rfl (c_X10_no l G ks ad 1 V3 _ h _) (gI wq_1102 wq_1104 wq_23 wq_46 wq_1105) rfl ⟨⟨by decide +kernel, by decide +kernel, by decide +kernel⟩, rfl, rfl, Nat.le_of_ble_eq_true rfl, Nat.le_of_ble_eq_true rfl⟩ rfl hl rfl (Nat.le_of_ble_eq_true rfl) dX10_cancel_23 ⟨Nat.le_of_ble_eq_true rfl, Nat.le_of_ble_eq_true rfl⟩) (fun r6 V5 H locs h hS => ?_)
    exact g_iret hC hr hlk hS h dX10_cancel_26
  · have h := h.2 c17
    refine lv_aload_n hC.1 hC.2.1 dX10_cancel_13 rfl (lv_at hl 0 rfl) ?_
    refine lv_iload_n hC.1 hC.2.1 dX10_cancel_14 rfl (lv_at hl 2 rfl) ?_
    refine g_calli0 hS (g_runV (n := 1) (rest := []) (As := [.int a2]) (C := RX10) (T := TX10) (N := 13) hC hS hk1 rfl rfl (c_X10_isBook l G ks ad a2 V3 _ h _) (gI wq_1178 wq_1180 wq_29 wq_46 wq_1181) rfl ⟨⟨by decide +kernel, by decide +kernel, by decide +kernel⟩, rfl, rfl, Nat.le_of_ble_eq_true rfl, Nat.le_of_ble_eq_true rfl⟩ rfl hl rfl (Nat.le_of_ble_eq_true rfl) dX10_cancel_15 ⟨Nat.le_of_ble_eq_true rfl, Nat.le_of_ble_eq_true rfl⟩) (fun r8 V7 H locs h hS => ?_)
    refine lv_if_ne (tgt := 27) hC.1 hC.2.1 dX10_cancel_18 (by decide) (fun c16 => ?_) (fun c16 => ?_)
    · have h := h.2 c16
      refine lv_aload_n hC.1 hC.2.1 dX10_cancel_27 rfl (lv_at hl 0 rfl) ?_
      refine gf_15_11 hC hS hk1 wq_1065 dX10_cancel_28 ?_
      refine lv_iload_n hC.1 hC.2.1 dX10_cancel_31 rfl (lv_at hl 1 rfl) ?_
      refine lv_iload_n hC.1 hC.2.1 dX10_cancel_32 rfl (lv_at hl 2 rfl) ?_
      obtain ⟨hk12, h⟩ := h
      refine g_calli0 hS (g_runV (n := 2) (rest := []) (As := [.int a1, .int a2]) (C := RX9) (T := TX9) (N := 17) hC hS hk12 rfl rfl (c_X9_placeOf l G ks ad 0 a1 a2 V7 _ h _) (gI wq_1182 wq_1183 wq_1184 wq_47 wq_1185) rfl ⟨⟨by decide +kernel, by decide +kernel, by decide +kernel⟩, rfl, rfl, Nat.le_of_ble_eq_true rfl, Nat.le_of_ble_eq_true rfl⟩ rfl hl rfl (Nat.le_of_ble_eq_true rfl) dX10_cancel_33 ⟨Nat.le_of_ble_eq_true rfl, Nat.le_of_ble_eq_true rfl⟩) (fun r13 V11 H locs h hS => ?_)
      refine lv_istore_n (lv' := [(3, .int r13), (0, .ref (ad 15 0 0)), (1, .int a1), (2, .int a2)]) hC.1 hC.2.1 dX10_cancel_36 rfl hl (by decide) rfl (fun ls hl => ?_)
      refine lv_iload_n hC.1 hC.2.1 dX10_cancel_37 rfl (lv_at hl 0 rfl) ?_
      refine lv_iconst (v := (-1)) hC.1 hC.2.1 dX10_cancel_38 (by decide) ?_
      refine lv_icmp_eq (tgt := 51) hC.1 hC.2.1 dX10_cancel_39 (by decide) (fun c15 => ?_) (fun c15 => ?_)
      · have h := h.1 c15
        refine lv_iload_n hC.1 hC.2.1 dX10_cancel_51 rfl (lv_at hl 0 rfl) ?_
        exact g_iret hC hr hlk hS h dX10_cancel_52
      · have h := h.2 c15
        refine lv_aload_n hC.1 hC.2.1 dX10_cancel_42 rfl (lv_at hl 1 rfl) ?_
        refine gf_15_11 hC hS hk1 wq_1065 dX10_cancel_43 ?_
        refine lv_iload_n hC.1 hC.2.1 dX10_cancel_46 rfl (lv_at hl 3 rfl) ?_
        refine lv_iload_n hC.1 hC.2.1 dX10_cancel_47 rfl (lv_at hl 0 rfl) ?_
        refine g_callv0 hS (g_runV (n := 2) (rest := []) (As := [.int a2, .int r13]) (C := RX9) (T := TX9) (N := 17) hC hS hk12 rfl rfl (c_X9_strike l G ks ad 0 a2 r13 V11 _ h _) (gI wq_1190 wq_1191 wq_1192 wq_47 wq_1193) rfl ⟨⟨by decide +kernel, by decide +kernel, by decide +kernel⟩, rfl, rfl, Nat.le_of_ble_eq_true rfl, Nat.le_of_ble_eq_true rfl⟩ rfl hl rfl (Nat.le_of_ble_eq_true rfl) dX10_cancel_48 ⟨Nat.le_of_ble_eq_true rfl, Nat.le_of_ble_eq_true rfl⟩) (fun V14 H locs h hS => ?_)
        refine lv_iload_n hC.1 hC.2.1 dX10_cancel_51 rfl (lv_at hl 0 rfl) ?_
        exact g_iret hC hr hlk hS h dX10_cancel_52
    · have h := h.1 c16
      refine lv_aload_n hC.1 hC.2.1 dX10_cancel_21 rfl (lv_at hl 0 rfl) ?_
      refine lv_iconst (v := 1) hC.1 hC.2.1 dX10_cancel_22 (by decide) ?_
      refine g_calli0 hS (g_runV (n := 1) (rest := []) (As := [.int 1]) (C := RX10) (T := TX10) (N := 13) hC hS hk1 rfl rfl (c_X10_no l G ks ad 1 V7 _ h _) (gI wq_1102 wq_1104 wq_23 wq_46 wq_1105) rfl ⟨⟨by decide +kernel, by decide +kernel, by decide +kernel⟩, rfl, rfl, Nat.le_of_ble_eq_true rfl, Nat.le_of_ble_eq_true rfl⟩ rfl hl rfl (Nat.le_of_ble_eq_true rfl) dX10_cancel_23 ⟨Nat.le_of_ble_eq_true rfl, Nat.le_of_ble_eq_true rfl⟩) (fun r10 V9 H locs h hS => ?_)
      exact g_iret hC hr hlk hS h dX10_cancel_26
def wk_X10_readerTold_21 (ks : List KY) (a1 : Int32) (a2 : Int32) (post : Int32 → VS → Prop) (B21 : Int32 → Int32 → VS → Prop) (x1 : Int32) (x2 : Int32) (x3 : Int32) (x4 : Int32) (V : VS) : Prop := ((15, 0, 0) ∈ ks ∧ ((V 15 0 0 6 0) ≤ x4 → ((x2 = 3 → ((16, 0, 0) ∈ ks ∧ wp_X9_many ks 0 x1 V (fun r4 V2 => (post r4 V2)))) ∧ (¬ (x2 = 3) → ((x2 = 4 → ((16, 0, 0) ∈ ks ∧ (31, 0, 0) ∈ ks ∧ vp_in x1 10 ∧ wp_J6_bitCount_0f7a4 ks (V 31 0 0 0 x1.toNatClampNeg) V (fun r9 V8 => (post r9 V8)))) ∧ (¬ (x2 = 4) → ((x2 = 5 → ((16, 0, 0) ∈ ks ∧ (32, 0, 0) ∈ ks ∧ vp_in x1 10 ∧ post (V 32 0 0 0 x1.toNatClampNeg) V)) ∧ (¬ (x2 = 5) → ((x2 = 6 → (post x3 V)) ∧ (¬ (x2 = 6) → ((16, 0, 0) ∈ ks ∧ (33, 0, 0) ∈ ks ∧ vp_in x1 10 ∧ post (V 33 0 0 0 x1.toNatClampNeg) V)))))))))) ∧ (¬ ((V 15 0 0 6 0) ≤ x4) → ((16, 0, 0) ∈ ks ∧ wp_X9_placeOf ks 0 x1 x4 V (fun r22 V20 => ((r22 = (-1) → (∀ y23 : Int32, y23 = x3 + 0 → ∀ y24 : Int32, y24 = x4 + 1 → B21 y23 y24 V20)) ∧ (¬ (r22 = (-1)) → (∀ y25 : Int32, y25 = x3 + 1 → ∀ y26 : Int32, y26 = x4 + 1 → B21 y25 y26 V20)))))))
def wl_X10_readerTold_21 (ks : List KY) (a1 : Int32) (a2 : Int32) (post : Int32 → VS → Prop) (x1 : Int32) (x2 : Int32) (x3 : Int32) (x4 : Int32) (V : VS) : Prop := ∃ J : Nat → Int32 → Int32 → VS → Prop, (∃ n, J n x3 x4 V) ∧ ∀ (n : Nat) (x3 : Int32) (x4 : Int32) (V : VS), J n x3 x4 V → wk_X10_readerTold_21 ks a1 a2 post (fun x3 x4 V => ∃ n', n' < n ∧ J n' x3 x4 V) x1 x2 x3 x4 V
def wp_X10_readerTold (ks : List KY) (a1 : Int32) (a2 : Int32) (V : VS) (post : Int32 → VS → Prop) : Prop := (((3 : Int32) ≤ a2 → (wl_X10_readerTold_21 ks a1 a2 post a1 a2 0 0 V)) ∧ (¬ ((3 : Int32) ≤ a2) → ((15, 0, 0) ∈ ks ∧ (20, 0, 0) ∈ ks ∧ vp_in ((3 * a1) + a2) 30 ∧ post (V 20 0 0 0 ((3 * a1) + a2).toNatClampNeg) V)))
set_option maxHeartbeats 4000000 in
set_option maxRecDepth 100000 in
theorem c_X10_readerTold (l : Launch) (G : GG) (ks : List KY) (ad : AD) (a1 : Int32) (a2 : Int32) (V : VS) (post : Int32 → VS → Prop) (h : wp_X10_readerTold ks a1 a2 V post) (sz : Nat) : Met l yX10_readerTold (ws_ yX10_readerTold cX10_readerTold 5 (some .int)) ({ frames := 1, cells := 0, slots := 0, locals := 23 }) (mPc [.ref (ad 15 0 0), .int a1, .int a2] G ks ad V sz) (mQi post G ks ad sz) 0 0 (mA ks ad sz) := by
  refine g_met (own := RX10) (by decide) rfl (Nat.le_of_ble_eq_true rfl) ?_
  intro p e s m args below meth c ls hC hsz hr hlk hin hS ha hl
  have hl : lv_has ls 5 [(0, .ref (ad 15 0 0)), (1, .int a1), (2, .int a2)] := hl
  unfold wp_X10_readerTold at h
  have kT21 : ∀ (x1 : Int32) (x2 : Int32) (x3 : Int32) (x4 : Int32) (V : VS) (H : Heap) (locs : List Loc) (ls : Array Slot), wl_X10_readerTold_21 ks a1 a2 post x1 x2 x3 x4 V → ST G ks ad V (mA ks ad sz) s.heap H locs → lv_has ls 5 [(0, .ref (ad 15 0 0)), (1, .int x1), (2, .int x2), (3, .int x3), (4, .int x4)] → W p l e ({ frames := 1, cells := 0, slots := 0, locals := 23 } : Room) s m args below meth c H locs 0 0 (MQ below (mQi post G ks ad sz) args s 0 0 (mA ks ad sz)) (F0 m 21 ls []) := by
    intro x1 x2 x3 x4 V H locs ls h hS hl
    obtain ⟨J, ⟨n, hJ⟩, hb⟩ := h
    induction n using Nat.strongRecOn generalizing x3 x4 V H locs ls with
    | _ n ih =>
      have h := hb n x3 x4 V hJ
      obtain ⟨B21, eB⟩ : ∃ z : Int32 → Int32 → VS → Prop, z = (fun x3 x4 V => ∃ n', n' < n ∧ J n' x3 x4 V) := ⟨_, rfl⟩
      rw [← eB] at h
      have kB21 : ∀ (x3 : Int32) (x4 : Int32) (V : VS) (H : Heap) (locs : List Loc) (ls : Array Slot), B21 x3 x4 V → ST G ks ad V (mA ks ad sz) s.heap H locs → lv_has ls 5 [(0, .ref (ad 15 0 0)), (1, .int x1), (2, .int x2), (3, .int x3), (4, .int x4)] → W p l e ({ frames := 1, cells := 0, slots := 0, locals := 23 } : Room) s m args below meth c H locs 0 0 (MQ below (mQi post G ks ad sz) args s 0 0 (mA ks ad sz)) (F0 m 21 ls []) := by
        intro x3 x4 V H locs ls h hS hl
        rw [eB] at h
        obtain ⟨n', hn, hJ'⟩ := h
        exact ih n' hn _ _ _ _ _ _ hS hl hJ'
      clear ih hJ hb eB
      unfold wk_X10_readerTold_21 at h
      refine lv_iload hC.1 hC.2.1 dX10_readerTold_21 (lv_at hl 4 rfl) ?_
      refine lv_aload_n hC.1 hC.2.1 dX10_readerTold_23 rfl (lv_at hl 0 rfl) ?_
      obtain ⟨hk1, h⟩ := h
      refine gf_15_6 hC hS hk1 wq_1055 dX10_readerTold_24 ?_
      refine lv_icmp_ge (tgt := 58) hC.1 hC.2.1 dX10_readerTold_27 (by decide) (fun c28 => ?_) (fun c28 => ?_)
      · have h := h.1 c28
        refine lv_iload_n hC.1 hC.2.1 dX10_readerTold_58 rfl (lv_at hl 2 rfl) ?_
        refine lv_iconst (v := 3) hC.1 hC.2.1 dX10_readerTold_59 (by decide) ?_
        refine lv_icmp_ne (tgt := 74) hC.1 hC.2.1 dX10_readerTold_60 (by decide) (fun c19 => ?_) (fun c19 => ?_)
        · have h := h.2 c19
          refine lv_iload_n hC.1 hC.2.1 dX10_readerTold_74 rfl (lv_at hl 2 rfl) ?_
          refine lv_iconst (v := 4) hC.1 hC.2.1 dX10_readerTold_75 (by decide) ?_
          refine lv_icmp_ne (tgt := 94) hC.1 hC.2.1 dX10_readerTold_76 (by decide) (fun c18 => ?_) (fun c18 => ?_)
          · have h := h.2 c18
            refine lv_iload_n hC.1 hC.2.1 dX10_readerTold_94 rfl (lv_at hl 2 rfl) ?_
            refine lv_iconst (v := 5) hC.1 hC.2.1 dX10_readerTold_95 (by decide) ?_
            refine lv_icmp_ne (tgt := 111) hC.1 hC.2.1 dX10_readerTold_96 (by decide) (fun c17 => ?_) (fun c17 => ?_)
            · have h := h.2 c17
              refine lv_iload_n hC.1 hC.2.1 dX10_readerTold_111 rfl (lv_at hl 2 rfl) ?_
              refine lv_bipush (v := 6) hC.1 hC.2.1 dX10_readerTold_112 (by decide) ?_
              refine lv_icmp_ne (tgt := 121) hC.1 hC.2.1 dX10_readerTold_114 (by decide) (fun c16 => ?_) (fun c16 => ?_)
              · have h := h.2 c16
                refine lv_aload_n hC.1 hC.2.1 dX10_readerTold_121 rfl (lv_at hl 0 rfl) ?_
                refine gf_15_11 hC hS hk1 wq_1065 dX10_readerTold_122 ?_
                obtain ⟨hk13, h⟩ := h
                refine gn_16_15 hC hS hk13 wq_1007 dX10_readerTold_125 ?_
                refine lv_iload_n hC.1 hC.2.1 dX10_readerTold_128 rfl (lv_at hl 1 rfl) ?_
                obtain ⟨hk14, h⟩ := h
                obtain ⟨hx15, h⟩ := h
                refine g_iald hC hS hk14 (by decide) hx15 dX10_readerTold_129 ?_
                exact g_iret hC hr hlk hS h dX10_readerTold_130
              · have h := h.1 c16
                refine lv_iload_n hC.1 hC.2.1 dX10_readerTold_117 rfl (lv_at hl 3 rfl) ?_
                refine lv_goto (tgt := 130) hC.1 hC.2.1 dX10_readerTold_118 (by decide) ?_
                exact g_iret hC hr hlk hS h dX10_readerTold_130
            · have h := h.1 c17
              refine lv_aload_n hC.1 hC.2.1 dX10_readerTold_99 rfl (lv_at hl 0 rfl) ?_
              refine gf_15_11 hC hS hk1 wq_1065 dX10_readerTold_100 ?_
              obtain ⟨hk10, h⟩ := h
              refine gn_16_14 hC hS hk10 wq_1005 dX10_readerTold_103 ?_
              refine lv_iload_n hC.1 hC.2.1 dX10_readerTold_106 rfl (lv_at hl 1 rfl) ?_
              obtain ⟨hk11, h⟩ := h
              obtain ⟨hx12, h⟩ := h
              refine g_iald hC hS hk11 (by decide) hx12 dX10_readerTold_107 ?_
              refine lv_goto (tgt := 130) hC.1 hC.2.1 dX10_readerTold_108 (by decide) ?_
              exact g_iret hC hr hlk hS h dX10_readerTold_130
          · have h := h.1 c18
            refine lv_aload_n hC.1 hC.2.1 dX10_readerTold_79 rfl (lv_at hl 0 rfl) ?_
            refine gf_15_11 hC hS hk1 wq_1065 dX10_readerTold_80 ?_
            obtain ⟨hk5, h⟩ := h
            refine gn_16_13 hC hS hk5 wq_1003 dX10_readerTold_83 ?_
            refine lv_iload_n hC.1 hC.2.1 dX10_readerTold_86 rfl (lv_at hl 1 rfl) ?_
            obtain ⟨hk6, h⟩ := h
            obtain ⟨hx7, h⟩ := h
            refine g_iald hC hS hk6 (by decide) hx7 dX10_readerTold_87 ?_
            refine g_calli0 hS (g_runS (n := 1) (rest := []) (As := [.int (V 31 0 0 0 x1.toNatClampNeg)]) hC hS (c_J6_bitCount_0f7a4 l G ks ad (V 31 0 0 0 x1.toNatClampNeg) V _ h _) (gIS wq_1214 wq_317 wq_65 wq_318) ⟨⟨by decide +kernel, by decide +kernel, by decide +kernel⟩, rfl, rfl, Nat.le_of_ble_eq_true rfl, Nat.le_of_ble_eq_true rfl⟩ rfl hl rfl (Nat.le_of_ble_eq_true rfl) dX10_readerTold_88 ⟨Nat.le_of_ble_eq_true rfl, Nat.le_of_ble_eq_true rfl⟩) (fun r9 V8 H locs h hS => ?_)
            refine lv_goto (tgt := 130) hC.1 hC.2.1 dX10_readerTold_91 (by decide) ?_
            exact g_iret hC hr hlk hS h dX10_readerTold_130
        · have h := h.1 c19
          refine lv_aload_n hC.1 hC.2.1 dX10_readerTold_63 rfl (lv_at hl 0 rfl) ?_
          refine gf_15_11 hC hS hk1 wq_1065 dX10_readerTold_64 ?_
          refine lv_iload_n hC.1 hC.2.1 dX10_readerTold_67 rfl (lv_at hl 1 rfl) ?_
          obtain ⟨hk3, h⟩ := h
          refine g_calli0 hS (g_runV (n := 1) (rest := []) (As := [.int x1]) (C := RX9) (T := TX9) (N := 17) hC hS hk3 rfl rfl (c_X9_many l G ks ad 0 x1 V _ h _) (gI wq_1210 wq_1211 wq_1212 wq_47 wq_1213) rfl ⟨⟨by decide +kernel, by decide +kernel, by decide +kernel⟩, rfl, rfl, Nat.le_of_ble_eq_true rfl, Nat.le_of_ble_eq_true rfl⟩ rfl hl rfl (Nat.le_of_ble_eq_true rfl) dX10_readerTold_68 ⟨Nat.le_of_ble_eq_true rfl, Nat.le_of_ble_eq_true rfl⟩) (fun r4 V2 H locs h hS => ?_)
          refine lv_goto (tgt := 130) hC.1 hC.2.1 dX10_readerTold_71 (by decide) ?_
          exact g_iret hC hr hlk hS h dX10_readerTold_130
      · have h := h.2 c28
        refine lv_iload_n hC.1 hC.2.1 dX10_readerTold_30 rfl (lv_at hl 3 rfl) ?_
        refine lv_aload_n hC.1 hC.2.1 dX10_readerTold_31 rfl (lv_at hl 0 rfl) ?_
        refine gf_15_11 hC hS hk1 wq_1065 dX10_readerTold_32 ?_
        refine lv_iload_n hC.1 hC.2.1 dX10_readerTold_35 rfl (lv_at hl 1 rfl) ?_
        refine lv_iload hC.1 hC.2.1 dX10_readerTold_36 (lv_at hl 4 rfl) ?_
        obtain ⟨hk21, h⟩ := h
        refine g_calli0 hS (g_runV (n := 2) (rest := [.int x3]) (As := [.int x1, .int x4]) (C := RX9) (T := TX9) (N := 17) hC hS hk21 rfl rfl (c_X9_placeOf l G ks ad 0 x1 x4 V _ h _) (gI wq_1182 wq_1183 wq_1184 wq_47 wq_1185) rfl ⟨⟨by decide +kernel, by decide +kernel, by decide +kernel⟩, rfl, rfl, Nat.le_of_ble_eq_true rfl, Nat.le_of_ble_eq_true rfl⟩ rfl hl rfl (Nat.le_of_ble_eq_true rfl) dX10_readerTold_38 ⟨Nat.le_of_ble_eq_true rfl, Nat.le_of_ble_eq_true rfl⟩) (fun r22 V20 H locs h hS => ?_)
        refine lv_iconst (v := (-1)) hC.1 hC.2.1 dX10_readerTold_41 (by decide) ?_
        refine lv_icmp_ne (tgt := 49) hC.1 hC.2.1 dX10_readerTold_42 (by decide) (fun c27 => ?_) (fun c27 => ?_)
        · have h := h.2 c27
          refine lv_iconst (v := 1) hC.1 hC.2.1 dX10_readerTold_49 (by decide) ?_
          refine lv_iadd hC.1 hC.2.1 dX10_readerTold_50 ?_
          refine lv_topi (fun y25 ey25 => ?_)
          have h := h y25 ey25
          refine lv_istore_n (lv' := [(3, .int y25), (0, .ref (ad 15 0 0)), (1, .int x1), (2, .int x2), (4, .int x4)]) hC.1 hC.2.1 dX10_readerTold_51 rfl hl (by decide) rfl (fun ls hl => ?_)
          obtain ⟨y26, ey26⟩ : ∃ z : Int32, z = x4 + 1 := ⟨_, rfl⟩
          have h := h y26 ey26
          refine lv_iinc (v := y26) (lv' := [(4, .int y26), (3, .int y25), (0, .ref (ad 15 0 0)), (1, .int x1), (2, .int x2)]) hC.1 hC.2.1 dX10_readerTold_52 hl (k := 4) rfl (by rw [ey26]; rfl) (by decide) rfl (fun ls hl => ?_)
          refine lv_goto (tgt := 21) hC.1 hC.2.1 dX10_readerTold_55 (by decide) ?_
          exact kB21 _ _ _ _ _ _ h hS (lv_sub hl [2, 3, 4, 1, 0] rfl)
        · have h := h.1 c27
          refine lv_iconst (v := 0) hC.1 hC.2.1 dX10_readerTold_45 (by decide) ?_
          refine lv_goto (tgt := 50) hC.1 hC.2.1 dX10_readerTold_46 (by decide) ?_
          refine lv_iadd hC.1 hC.2.1 dX10_readerTold_50 ?_
          refine lv_topi (fun y23 ey23 => ?_)
          have h := h y23 ey23
          refine lv_istore_n (lv' := [(3, .int y23), (0, .ref (ad 15 0 0)), (1, .int x1), (2, .int x2), (4, .int x4)]) hC.1 hC.2.1 dX10_readerTold_51 rfl hl (by decide) rfl (fun ls hl => ?_)
          obtain ⟨y24, ey24⟩ : ∃ z : Int32, z = x4 + 1 := ⟨_, rfl⟩
          have h := h y24 ey24
          refine lv_iinc (v := y24) (lv' := [(4, .int y24), (3, .int y23), (0, .ref (ad 15 0 0)), (1, .int x1), (2, .int x2)]) hC.1 hC.2.1 dX10_readerTold_52 hl (k := 4) rfl (by rw [ey24]; rfl) (by decide) rfl (fun ls hl => ?_)
          refine lv_goto (tgt := 21) hC.1 hC.2.1 dX10_readerTold_55 (by decide) ?_
          exact kB21 _ _ _ _ _ _ h hS (lv_sub hl [2, 3, 4, 1, 0] rfl)
  refine lv_iload_n hC.1 hC.2.1 dX10_readerTold_0 rfl (lv_at hl 2 rfl) ?_
  refine lv_iconst (v := 3) hC.1 hC.2.1 dX10_readerTold_1 (by decide) ?_
  refine lv_icmp_ge (tgt := 16) hC.1 hC.2.1 dX10_readerTold_2 (by decide) (fun c32 => ?_) (fun c32 => ?_)
  · have h := h.1 c32
    refine lv_iconst (v := 0) hC.1 hC.2.1 dX10_readerTold_16 (by decide) ?_
    refine lv_istore_n (lv' := [(3, .int 0), (0, .ref (ad 15 0 0)), (1, .int a1), (2, .int a2)]) hC.1 hC.2.1 dX10_readerTold_17 rfl hl (by decide) rfl (fun ls hl => ?_)
    refine lv_iconst (v := 0) hC.1 hC.2.1 dX10_readerTold_18 (by decide) ?_
    refine lv_istore (lv' := [(4, .int 0), (3, .int 0), (0, .ref (ad 15 0 0)), (1, .int a1), (2, .int a2)]) hC.1 hC.2.1 dX10_readerTold_19 hl (by decide) rfl (fun ls hl => ?_)
    exact kT21 _ _ _ _ _ _ _ _ h hS (lv_sub hl [2, 3, 4, 1, 0] rfl)
  · have h := h.2 c32
    refine lv_aload_n hC.1 hC.2.1 dX10_readerTold_5 rfl (lv_at hl 0 rfl) ?_
    obtain ⟨hk29, h⟩ := h
    refine gf_15_9 hC hS hk29 wq_1061 dX10_readerTold_6 ?_
    refine lv_iconst (v := 3) hC.1 hC.2.1 dX10_readerTold_9 (by decide) ?_
    refine lv_iload_n hC.1 hC.2.1 dX10_readerTold_10 rfl (lv_at hl 1 rfl) ?_
    refine lv_imul hC.1 hC.2.1 dX10_readerTold_11 ?_
    refine lv_iload_n hC.1 hC.2.1 dX10_readerTold_12 rfl (lv_at hl 2 rfl) ?_
    refine lv_iadd hC.1 hC.2.1 dX10_readerTold_13 ?_
    obtain ⟨hk30, h⟩ := h
    obtain ⟨hx31, h⟩ := h
    refine g_iald hC hS hk30 (by decide) hx31 dX10_readerTold_14 ?_
    exact g_iret hC hr hlk hS h dX10_readerTold_15
def wp_X10_reader (ks : List KY) (a1 : Int32) (a2 : Int32) (V : VS) (post : Int32 → VS → Prop) : Prop := ((15, 0, 0) ∈ ks ∧ ∀ V2 : VS, V2 = vup V 15 0 0 0 0 0 → wp_X10_isReader ks a1 V2 (fun r4 V3 => ((r4 = 0 → (wp_X10_no ks 1 V3 (fun r6 V5 => (post r6 V5)))) ∧ (¬ (r4 = 0) → (wp_X10_isIn ks a2 0 7 V3 (fun r8 V7 => ((r8 = 0 → (wp_X10_no ks 1 V7 (fun r10 V9 => (post r10 V9)))) ∧ (¬ (r8 = 0) → (wp_X10_readerTold ks a1 a2 V7 (fun r12 V11 => (post r12 V11)))))))))))
set_option maxHeartbeats 4000000 in
set_option maxRecDepth 100000 in
theorem c_X10_reader (l : Launch) (G : GG) (ks : List KY) (ad : AD) (a1 : Int32) (a2 : Int32) (V : VS) (post : Int32 → VS → Prop) (h : wp_X10_reader ks a1 a2 V post) (sz : Nat) : Met l yX10_reader (ws_ yX10_reader cX10_reader 3 (some .int)) ({ frames := 2, cells := 0, slots := 0, locals := 47 }) (mPc [.ref (ad 15 0 0), .int a1, .int a2] G ks ad V sz) (mQi post G ks ad sz) 0 0 (mA ks ad sz) := by
  refine g_met (own := RX10) (by decide) rfl (Nat.le_of_ble_eq_true rfl) ?_
  intro p e s m args below meth c ls hC hsz hr hlk hin hS ha hl
  have hl : lv_has ls 3 [(0, .ref (ad 15 0 0)), (1, .int a1), (2, .int a2)] := hl
  unfold wp_X10_reader at h
  refine lv_aload_n hC.1 hC.2.1 dX10_reader_0 rfl (lv_at hl 0 rfl) ?_
  refine lv_iconst (v := 0) hC.1 hC.2.1 dX10_reader_1 (by decide) ?_
  obtain ⟨hk1, h⟩ := h
  refine pf_15_0 hC hS hk1 wq_1044 dX10_reader_2 (fun H locs hS => ?_)
  obtain ⟨V2, eV2⟩ : ∃ z : VS, z = vup V 15 0 0 0 0 0 := ⟨_, rfl⟩
  rw [← eV2] at hS
  have h := h V2 eV2
  refine lv_aload_n hC.1 hC.2.1 dX10_reader_5 rfl (lv_at hl 0 rfl) ?_
  refine lv_iload_n hC.1 hC.2.1 dX10_reader_6 rfl (lv_at hl 1 rfl) ?_
  refine g_calli0 hS (g_runV (n := 1) (rest := []) (As := [.int a1]) (C := RX10) (T := TX10) (N := 13) hC hS hk1 rfl rfl (c_X10_isReader l G ks ad a1 V2 _ h _) (gI wq_1174 wq_1176 wq_28 wq_46 wq_1177) rfl ⟨⟨by decide +kernel, by decide +kernel, by decide +kernel⟩, rfl, rfl, Nat.le_of_ble_eq_true rfl, Nat.le_of_ble_eq_true rfl⟩ rfl hl rfl (Nat.le_of_ble_eq_true rfl) dX10_reader_7 ⟨Nat.le_of_ble_eq_true rfl, Nat.le_of_ble_eq_true rfl⟩) (fun r4 V3 H locs h hS => ?_)
  refine lv_if_eq (tgt := 32) hC.1 hC.2.1 dX10_reader_10 (by decide) (fun c14 => ?_) (fun c14 => ?_)
  · have h := h.1 c14
    refine lv_aload_n hC.1 hC.2.1 dX10_reader_32 rfl (lv_at hl 0 rfl) ?_
    refine lv_iconst (v := 1) hC.1 hC.2.1 dX10_reader_33 (by decide) ?_
    refine g_calli0 hS (g_runV (n := 1) (rest := []) (As := [.int 1]) (C := RX10) (T := TX10) (N := 13) hC hS hk1 rfl rfl (c_X10_no l G ks ad 1 V3 _ h _) (gI wq_1102 wq_1104 wq_23 wq_46 wq_1105) rfl ⟨⟨by decide +kernel, by decide +kernel, by decide +kernel⟩, rfl, rfl, Nat.le_of_ble_eq_true rfl, Nat.le_of_ble_eq_true rfl⟩ rfl hl rfl (Nat.le_of_ble_eq_true rfl) dX10_reader_34 ⟨Nat.le_of_ble_eq_true rfl, Nat.le_of_ble_eq_true rfl⟩) (fun r6 V5 H locs h hS => ?_)
    exact g_iret hC hr hlk hS h dX10_reader_37
  · have h := h.2 c14
    refine lv_iload_n hC.1 hC.2.1 dX10_reader_13 rfl (lv_at hl 2 rfl) ?_
    refine lv_iconst (v := 0) hC.1 hC.2.1 dX10_reader_14 (by decide) ?_
    refine lv_bipush (v := 7) hC.1 hC.2.1 dX10_reader_15 (by decide) ?_
    refine g_calli0 hS (g_runS (n := 3) (rest := []) (As := [.int a2, .int 0, .int 7]) hC hS (c_X10_isIn l G ks ad a2 0 7 V3 _ h _) (gIS wq_1114 wq_1115 wq_46 wq_1116) ⟨⟨by decide +kernel, by decide +kernel, by decide +kernel⟩, rfl, rfl, Nat.le_of_ble_eq_true rfl, Nat.le_of_ble_eq_true rfl⟩ rfl hl rfl (Nat.le_of_ble_eq_true rfl) dX10_reader_17 ⟨Nat.le_of_ble_eq_true rfl, Nat.le_of_ble_eq_true rfl⟩) (fun r8 V7 H locs h hS => ?_)
    refine lv_if_eq (tgt := 32) hC.1 hC.2.1 dX10_reader_20 (by decide) (fun c13 => ?_) (fun c13 => ?_)
    · have h := h.1 c13
      refine lv_aload_n hC.1 hC.2.1 dX10_reader_32 rfl (lv_at hl 0 rfl) ?_
      refine lv_iconst (v := 1) hC.1 hC.2.1 dX10_reader_33 (by decide) ?_
      refine g_calli0 hS (g_runV (n := 1) (rest := []) (As := [.int 1]) (C := RX10) (T := TX10) (N := 13) hC hS hk1 rfl rfl (c_X10_no l G ks ad 1 V7 _ h _) (gI wq_1102 wq_1104 wq_23 wq_46 wq_1105) rfl ⟨⟨by decide +kernel, by decide +kernel, by decide +kernel⟩, rfl, rfl, Nat.le_of_ble_eq_true rfl, Nat.le_of_ble_eq_true rfl⟩ rfl hl rfl (Nat.le_of_ble_eq_true rfl) dX10_reader_34 ⟨Nat.le_of_ble_eq_true rfl, Nat.le_of_ble_eq_true rfl⟩) (fun r10 V9 H locs h hS => ?_)
      exact g_iret hC hr hlk hS h dX10_reader_37
    · have h := h.2 c13
      refine lv_aload_n hC.1 hC.2.1 dX10_reader_23 rfl (lv_at hl 0 rfl) ?_
      refine lv_iload_n hC.1 hC.2.1 dX10_reader_24 rfl (lv_at hl 1 rfl) ?_
      refine lv_iload_n hC.1 hC.2.1 dX10_reader_25 rfl (lv_at hl 2 rfl) ?_
      refine g_calli0 hS (g_runV (n := 2) (rest := []) (As := [.int a1, .int a2]) (C := RX10) (T := TX10) (N := 13) hC hS hk1 rfl rfl (c_X10_readerTold l G ks ad a1 a2 V7 _ h _) (gI wq_1206 wq_1208 wq_31 wq_46 wq_1209) rfl ⟨⟨by decide +kernel, by decide +kernel, by decide +kernel⟩, rfl, rfl, Nat.le_of_ble_eq_true rfl, Nat.le_of_ble_eq_true rfl⟩ rfl hl rfl (Nat.le_of_ble_eq_true rfl) dX10_reader_26 ⟨Nat.le_of_ble_eq_true rfl, Nat.le_of_ble_eq_true rfl⟩) (fun r12 V11 H locs h hS => ?_)
      refine lv_goto (tgt := 37) hC.1 hC.2.1 dX10_reader_29 (by decide) ?_
      exact g_iret hC hr hlk hS h dX10_reader_37
def wp_X10_pay (ks : List KY) (a1 : Int32) (a2 : Int32) (V : VS) (post : Int32 → VS → Prop) : Prop := ((15, 0, 0) ∈ ks ∧ ∀ V2 : VS, V2 = vup V 15 0 0 0 0 0 → wp_X10_isReader ks a1 V2 (fun r4 V3 => ((r4 = 0 → (wp_X10_no ks 1 V3 (fun r6 V5 => (post r6 V5)))) ∧ (¬ (r4 = 0) → ((16, 0, 0) ∈ ks ∧ (32, 0, 0) ∈ ks ∧ vp_in a1 10 ∧ wp_X10_isIn ks a2 1 (V3 32 0 0 0 a1.toNatClampNeg) V3 (fun r11 V10 => ((r11 = 0 → (wp_X10_no ks 2 V10 (fun r13 V12 => (post r13 V12)))) ∧ (¬ (r11 = 0) → (∀ V14 : VS, V14 = vup V10 32 0 0 0 a1.toNatClampNeg ((V10 32 0 0 0 a1.toNatClampNeg) - a2) → post (V14 32 0 0 0 a1.toNatClampNeg) V14)))))))))
set_option maxHeartbeats 4000000 in
set_option maxRecDepth 100000 in
theorem c_X10_pay (l : Launch) (G : GG) (ks : List KY) (ad : AD) (a1 : Int32) (a2 : Int32) (V : VS) (post : Int32 → VS → Prop) (h : wp_X10_pay ks a1 a2 V post) (sz : Nat) : Met l yX10_pay (ws_ yX10_pay cX10_pay 3 (some .int)) ({ frames := 2, cells := 0, slots := 0, locals := 43 }) (mPc [.ref (ad 15 0 0), .int a1, .int a2] G ks ad V sz) (mQi post G ks ad sz) 0 0 (mA ks ad sz) := by
  refine g_met (own := RX10) (by decide) rfl (Nat.le_of_ble_eq_true rfl) ?_
  intro p e s m args below meth c ls hC hsz hr hlk hin hS ha hl
  have hl : lv_has ls 3 [(0, .ref (ad 15 0 0)), (1, .int a1), (2, .int a2)] := hl
  unfold wp_X10_pay at h
  refine lv_aload_n hC.1 hC.2.1 dX10_pay_0 rfl (lv_at hl 0 rfl) ?_
  refine lv_iconst (v := 0) hC.1 hC.2.1 dX10_pay_1 (by decide) ?_
  obtain ⟨hk1, h⟩ := h
  refine pf_15_0 hC hS hk1 wq_1044 dX10_pay_2 (fun H locs hS => ?_)
  obtain ⟨V2, eV2⟩ : ∃ z : VS, z = vup V 15 0 0 0 0 0 := ⟨_, rfl⟩
  rw [← eV2] at hS
  have h := h V2 eV2
  refine lv_aload_n hC.1 hC.2.1 dX10_pay_5 rfl (lv_at hl 0 rfl) ?_
  refine lv_iload_n hC.1 hC.2.1 dX10_pay_6 rfl (lv_at hl 1 rfl) ?_
  refine g_calli0 hS (g_runV (n := 1) (rest := []) (As := [.int a1]) (C := RX10) (T := TX10) (N := 13) hC hS hk1 rfl rfl (c_X10_isReader l G ks ad a1 V2 _ h _) (gI wq_1174 wq_1176 wq_28 wq_46 wq_1177) rfl ⟨⟨by decide +kernel, by decide +kernel, by decide +kernel⟩, rfl, rfl, Nat.le_of_ble_eq_true rfl, Nat.le_of_ble_eq_true rfl⟩ rfl hl rfl (Nat.le_of_ble_eq_true rfl) dX10_pay_7 ⟨Nat.le_of_ble_eq_true rfl, Nat.le_of_ble_eq_true rfl⟩) (fun r4 V3 H locs h hS => ?_)
  refine lv_if_ne (tgt := 19) hC.1 hC.2.1 dX10_pay_10 (by decide) (fun c16 => ?_) (fun c16 => ?_)
  · have h := h.2 c16
    refine lv_iload_n hC.1 hC.2.1 dX10_pay_19 rfl (lv_at hl 2 rfl) ?_
    refine lv_iconst (v := 1) hC.1 hC.2.1 dX10_pay_20 (by decide) ?_
    refine lv_aload_n hC.1 hC.2.1 dX10_pay_21 rfl (lv_at hl 0 rfl) ?_
    refine gf_15_11 hC hS hk1 wq_1065 dX10_pay_22 ?_
    obtain ⟨hk7, h⟩ := h
    refine gn_16_14 hC hS hk7 wq_1005 dX10_pay_25 ?_
    refine lv_iload_n hC.1 hC.2.1 dX10_pay_28 rfl (lv_at hl 1 rfl) ?_
    obtain ⟨hk8, h⟩ := h
    obtain ⟨hx9, h⟩ := h
    refine g_iald hC hS hk8 (by decide) hx9 dX10_pay_29 ?_
    refine g_calli0 hS (g_runS (n := 3) (rest := []) (As := [.int a2, .int 1, .int (V3 32 0 0 0 a1.toNatClampNeg)]) hC hS (c_X10_isIn l G ks ad a2 1 (V3 32 0 0 0 a1.toNatClampNeg) V3 _ h _) (gIS wq_1114 wq_1115 wq_46 wq_1116) ⟨⟨by decide +kernel, by decide +kernel, by decide +kernel⟩, rfl, rfl, Nat.le_of_ble_eq_true rfl, Nat.le_of_ble_eq_true rfl⟩ rfl hl rfl (Nat.le_of_ble_eq_true rfl) dX10_pay_30 ⟨Nat.le_of_ble_eq_true rfl, Nat.le_of_ble_eq_true rfl⟩) (fun r11 V10 H locs h hS => ?_)
    refine lv_if_ne (tgt := 42) hC.1 hC.2.1 dX10_pay_33 (by decide) (fun c15 => ?_) (fun c15 => ?_)
    · have h := h.2 c15
      refine lv_aload_n hC.1 hC.2.1 dX10_pay_42 rfl (lv_at hl 0 rfl) ?_
      refine gf_15_11 hC hS hk1 wq_1065 dX10_pay_43 ?_
      refine gn_16_14 hC hS hk7 wq_1005 dX10_pay_46 ?_
      refine lv_iload_n hC.1 hC.2.1 dX10_pay_49 rfl (lv_at hl 1 rfl) ?_
      refine lv_dup2_11 hC.1 hC.2.1 dX10_pay_50 rfl rfl ?_
      refine g_iald hC hS hk8 (by decide) hx9 dX10_pay_51 ?_
      refine lv_iload_n hC.1 hC.2.1 dX10_pay_52 rfl (lv_at hl 2 rfl) ?_
      refine lv_isub hC.1 hC.2.1 dX10_pay_53 ?_
      refine g_iast hC hS hk8 (by decide) hx9 dX10_pay_54 (fun H locs hS => ?_)
      obtain ⟨V14, eV14⟩ : ∃ z : VS, z = vup V10 32 0 0 0 a1.toNatClampNeg ((V10 32 0 0 0 a1.toNatClampNeg) - a2) := ⟨_, rfl⟩
      rw [← eV14] at hS
      have h := h V14 eV14
      refine lv_aload_n hC.1 hC.2.1 dX10_pay_55 rfl (lv_at hl 0 rfl) ?_
      refine gf_15_11 hC hS hk1 wq_1065 dX10_pay_56 ?_
      refine gn_16_14 hC hS hk7 wq_1005 dX10_pay_59 ?_
      refine lv_iload_n hC.1 hC.2.1 dX10_pay_62 rfl (lv_at hl 1 rfl) ?_
      refine g_iald hC hS hk8 (by decide) hx9 dX10_pay_63 ?_
      exact g_iret hC hr hlk hS h dX10_pay_64
    · have h := h.1 c15
      refine lv_aload_n hC.1 hC.2.1 dX10_pay_36 rfl (lv_at hl 0 rfl) ?_
      refine lv_iconst (v := 2) hC.1 hC.2.1 dX10_pay_37 (by decide) ?_
      refine g_calli0 hS (g_runV (n := 1) (rest := []) (As := [.int 2]) (C := RX10) (T := TX10) (N := 13) hC hS hk1 rfl rfl (c_X10_no l G ks ad 2 V10 _ h _) (gI wq_1102 wq_1104 wq_23 wq_46 wq_1105) rfl ⟨⟨by decide +kernel, by decide +kernel, by decide +kernel⟩, rfl, rfl, Nat.le_of_ble_eq_true rfl, Nat.le_of_ble_eq_true rfl⟩ rfl hl rfl (Nat.le_of_ble_eq_true rfl) dX10_pay_38 ⟨Nat.le_of_ble_eq_true rfl, Nat.le_of_ble_eq_true rfl⟩) (fun r13 V12 H locs h hS => ?_)
      exact g_iret hC hr hlk hS h dX10_pay_41
  · have h := h.1 c16
    refine lv_aload_n hC.1 hC.2.1 dX10_pay_13 rfl (lv_at hl 0 rfl) ?_
    refine lv_iconst (v := 1) hC.1 hC.2.1 dX10_pay_14 (by decide) ?_
    refine g_calli0 hS (g_runV (n := 1) (rest := []) (As := [.int 1]) (C := RX10) (T := TX10) (N := 13) hC hS hk1 rfl rfl (c_X10_no l G ks ad 1 V3 _ h _) (gI wq_1102 wq_1104 wq_23 wq_46 wq_1105) rfl ⟨⟨by decide +kernel, by decide +kernel, by decide +kernel⟩, rfl, rfl, Nat.le_of_ble_eq_true rfl, Nat.le_of_ble_eq_true rfl⟩ rfl hl rfl (Nat.le_of_ble_eq_true rfl) dX10_pay_15 ⟨Nat.le_of_ble_eq_true rfl, Nat.le_of_ble_eq_true rfl⟩) (fun r6 V5 H locs h hS => ?_)
    exact g_iret hC hr hlk hS h dX10_pay_18
def wk_X10_pass_4 (ks : List KY) (w0 : Nat) (a1 : Int32) (post : Int32 → VS → Prop) (B4 : Int32 → Int32 → VS → Prop) (x1 : Int32) (x2 : Int32) (x3 : Int32) (V : VS) : Prop := ((x1 ≤ x3 → (post x2 V)) ∧ (¬ (x1 ≤ x3) → ((16, w0, 0) ∈ ks ∧ wp_X9_pass ks w0 V (fun r3 V1 => (∀ y4 : Int32, y4 = x2 + r3 → ∀ y5 : Int32, y5 = x3 + 1 → B4 y4 y5 V1)))))
def wl_X10_pass_4 (ks : List KY) (w0 : Nat) (a1 : Int32) (post : Int32 → VS → Prop) (x1 : Int32) (x2 : Int32) (x3 : Int32) (V : VS) : Prop := ∃ J : Nat → Int32 → Int32 → VS → Prop, (∃ n, J n x2 x3 V) ∧ ∀ (n : Nat) (x2 : Int32) (x3 : Int32) (V : VS), J n x2 x3 V → wk_X10_pass_4 ks w0 a1 post (fun x2 x3 V => ∃ n', n' < n ∧ J n' x2 x3 V) x1 x2 x3 V
def wp_X10_pass (ks : List KY) (w0 : Nat) (a1 : Int32) (V : VS) (post : Int32 → VS → Prop) : Prop := (wl_X10_pass_4 ks w0 a1 post a1 0 0 V)
set_option maxHeartbeats 4000000 in
set_option maxRecDepth 100000 in
theorem c_X10_pass (l : Launch) (G : GG) (ks : List KY) (ad : AD) (w0 : Nat) (a1 : Int32) (V : VS) (post : Int32 → VS → Prop) (h : wp_X10_pass ks w0 a1 V post) (sz : Nat) : Met l yX10_pass (ws_ yX10_pass cX10_pass 4 (some .int)) ({ frames := 4, cells := 0, slots := 0, locals := 93 }) (mPc [.ref (ad 16 w0 0), .int a1] G ks ad V sz) (mQi post G ks ad sz) 0 0 (mA ks ad sz) := by
  refine g_met (own := RX10) (by decide) rfl (Nat.le_of_ble_eq_true rfl) ?_
  intro p e s m args below meth c ls hC hsz hr hlk hin hS ha hl
  have hl : lv_has ls 4 [(0, .ref (ad 16 w0 0)), (1, .int a1)] := hl
  unfold wp_X10_pass at h
  have kT4 : ∀ (x1 : Int32) (x2 : Int32) (x3 : Int32) (V : VS) (H : Heap) (locs : List Loc) (ls : Array Slot), wl_X10_pass_4 ks w0 a1 post x1 x2 x3 V → ST G ks ad V (mA ks ad sz) s.heap H locs → lv_has ls 4 [(0, .ref (ad 16 w0 0)), (1, .int x1), (2, .int x2), (3, .int x3)] → W p l e ({ frames := 4, cells := 0, slots := 0, locals := 93 } : Room) s m args below meth c H locs 0 0 (MQ below (mQi post G ks ad sz) args s 0 0 (mA ks ad sz)) (F0 m 4 ls []) := by
    intro x1 x2 x3 V H locs ls h hS hl
    obtain ⟨J, ⟨n, hJ⟩, hb⟩ := h
    induction n using Nat.strongRecOn generalizing x2 x3 V H locs ls with
    | _ n ih =>
      have h := hb n x2 x3 V hJ
      obtain ⟨B4, eB⟩ : ∃ z : Int32 → Int32 → VS → Prop, z = (fun x2 x3 V => ∃ n', n' < n ∧ J n' x2 x3 V) := ⟨_, rfl⟩
      rw [← eB] at h
      have kB4 : ∀ (x2 : Int32) (x3 : Int32) (V : VS) (H : Heap) (locs : List Loc) (ls : Array Slot), B4 x2 x3 V → ST G ks ad V (mA ks ad sz) s.heap H locs → lv_has ls 4 [(0, .ref (ad 16 w0 0)), (1, .int x1), (2, .int x2), (3, .int x3)] → W p l e ({ frames := 4, cells := 0, slots := 0, locals := 93 } : Room) s m args below meth c H locs 0 0 (MQ below (mQi post G ks ad sz) args s 0 0 (mA ks ad sz)) (F0 m 4 ls []) := by
        intro x2 x3 V H locs ls h hS hl
        rw [eB] at h
        obtain ⟨n', hn, hJ'⟩ := h
        exact ih n' hn _ _ _ _ _ _ hS hl hJ'
      clear ih hJ hb eB
      unfold wk_X10_pass_4 at h
      refine lv_iload_n hC.1 hC.2.1 dX10_pass_4 rfl (lv_at hl 3 rfl) ?_
      refine lv_iload_n hC.1 hC.2.1 dX10_pass_5 rfl (lv_at hl 1 rfl) ?_
      refine lv_icmp_ge (tgt := 22) hC.1 hC.2.1 dX10_pass_6 (by decide) (fun c6 => ?_) (fun c6 => ?_)
      · have h := h.1 c6
        refine lv_iload_n hC.1 hC.2.1 dX10_pass_22 rfl (lv_at hl 2 rfl) ?_
        exact g_iret hC hr hlk hS h dX10_pass_23
      · have h := h.2 c6
        refine lv_iload_n hC.1 hC.2.1 dX10_pass_9 rfl (lv_at hl 2 rfl) ?_
        refine lv_aload_n hC.1 hC.2.1 dX10_pass_10 rfl (lv_at hl 0 rfl) ?_
        obtain ⟨hk2, h⟩ := h
        refine g_calli0 hS (g_runV (n := 0) (rest := [.int x2]) (As := []) (C := RX9) (T := TX9) (N := 17) hC hS hk2 rfl rfl (c_X9_pass l G ks ad w0 V _ h _) (gI wq_1226 wq_1227 wq_1228 wq_47 wq_1229) rfl ⟨⟨by decide +kernel, by decide +kernel, by decide +kernel⟩, rfl, rfl, Nat.le_of_ble_eq_true rfl, Nat.le_of_ble_eq_true rfl⟩ rfl hl rfl (Nat.le_of_ble_eq_true rfl) dX10_pass_11 ⟨Nat.le_of_ble_eq_true rfl, Nat.le_of_ble_eq_true rfl⟩) (fun r3 V1 H locs h hS => ?_)
        refine lv_iadd hC.1 hC.2.1 dX10_pass_14 ?_
        refine lv_topi (fun y4 ey4 => ?_)
        have h := h y4 ey4
        refine lv_istore_n (lv' := [(2, .int y4), (0, .ref (ad 16 w0 0)), (1, .int x1), (3, .int x3)]) hC.1 hC.2.1 dX10_pass_15 rfl hl (by decide) rfl (fun ls hl => ?_)
        obtain ⟨y5, ey5⟩ : ∃ z : Int32, z = x3 + 1 := ⟨_, rfl⟩
        have h := h y5 ey5
        refine lv_iinc (v := y5) (lv' := [(3, .int y5), (2, .int y4), (0, .ref (ad 16 w0 0)), (1, .int x1)]) hC.1 hC.2.1 dX10_pass_16 hl (k := 3) rfl (by rw [ey5]; rfl) (by decide) rfl (fun ls hl => ?_)
        refine lv_goto (tgt := 4) hC.1 hC.2.1 dX10_pass_19 (by decide) ?_
        exact kB4 _ _ _ _ _ _ h hS (lv_sub hl [2, 3, 1, 0] rfl)
  refine lv_iconst (v := 0) hC.1 hC.2.1 dX10_pass_0 (by decide) ?_
  refine lv_istore_n (lv' := [(2, .int 0), (0, .ref (ad 16 w0 0)), (1, .int a1)]) hC.1 hC.2.1 dX10_pass_1 rfl hl (by decide) rfl (fun ls hl => ?_)
  refine lv_iconst (v := 0) hC.1 hC.2.1 dX10_pass_2 (by decide) ?_
  refine lv_istore_n (lv' := [(3, .int 0), (2, .int 0), (0, .ref (ad 16 w0 0)), (1, .int a1)]) hC.1 hC.2.1 dX10_pass_3 rfl hl (by decide) rfl (fun ls hl => ?_)
  exact kT4 _ _ _ _ _ _ _ h hS (lv_sub hl [2, 3, 1, 0] rfl)
def wp_X10_pass_ (ks : List KY) (a1 : Int32) (V : VS) (post : Int32 → VS → Prop) : Prop := ((15, 0, 0) ∈ ks ∧ ∀ V2 : VS, V2 = vup V 15 0 0 0 0 0 → wp_X10_isIn ks a1 1 60 V2 (fun r4 V3 => ((r4 = 0 → (wp_X10_no ks 1 V3 (fun r6 V5 => (post r6 V5)))) ∧ (¬ (r4 = 0) → (wp_X10_pass ks 0 a1 V3 (fun r8 V7 => (post r8 V7)))))))
set_option maxHeartbeats 4000000 in
set_option maxRecDepth 100000 in
theorem c_X10_pass_ (l : Launch) (G : GG) (ks : List KY) (ad : AD) (a1 : Int32) (V : VS) (post : Int32 → VS → Prop) (h : wp_X10_pass_ ks a1 V post) (sz : Nat) : Met l yX10_pass_ (ws_ yX10_pass_ cX10_pass_ 2 (some .int)) ({ frames := 5, cells := 0, slots := 0, locals := 116 }) (mPc [.ref (ad 15 0 0), .int a1] G ks ad V sz) (mQi post G ks ad sz) 0 0 (mA ks ad sz) := by
  refine g_met (own := RX10) (by decide) rfl (Nat.le_of_ble_eq_true rfl) ?_
  intro p e s m args below meth c ls hC hsz hr hlk hin hS ha hl
  have hl : lv_has ls 2 [(0, .ref (ad 15 0 0)), (1, .int a1)] := hl
  unfold wp_X10_pass_ at h
  refine lv_aload_n hC.1 hC.2.1 dX10_pass__0 rfl (lv_at hl 0 rfl) ?_
  refine lv_iconst (v := 0) hC.1 hC.2.1 dX10_pass__1 (by decide) ?_
  obtain ⟨hk1, h⟩ := h
  refine pf_15_0 hC hS hk1 wq_1044 dX10_pass__2 (fun H locs hS => ?_)
  obtain ⟨V2, eV2⟩ : ∃ z : VS, z = vup V 15 0 0 0 0 0 := ⟨_, rfl⟩
  rw [← eV2] at hS
  have h := h V2 eV2
  refine lv_iload_n hC.1 hC.2.1 dX10_pass__5 rfl (lv_at hl 1 rfl) ?_
  refine lv_iconst (v := 1) hC.1 hC.2.1 dX10_pass__6 (by decide) ?_
  refine lv_bipush (v := 60) hC.1 hC.2.1 dX10_pass__7 (by decide) ?_
  refine g_calli0 hS (g_runS (n := 3) (rest := []) (As := [.int a1, .int 1, .int 60]) hC hS (c_X10_isIn l G ks ad a1 1 60 V2 _ h _) (gIS wq_1114 wq_1115 wq_46 wq_1116) ⟨⟨by decide +kernel, by decide +kernel, by decide +kernel⟩, rfl, rfl, Nat.le_of_ble_eq_true rfl, Nat.le_of_ble_eq_true rfl⟩ rfl hl rfl (Nat.le_of_ble_eq_true rfl) dX10_pass__9 ⟨Nat.le_of_ble_eq_true rfl, Nat.le_of_ble_eq_true rfl⟩) (fun r4 V3 H locs h hS => ?_)
  refine lv_if_eq (tgt := 26) hC.1 hC.2.1 dX10_pass__12 (by decide) (fun c9 => ?_) (fun c9 => ?_)
  · have h := h.1 c9
    refine lv_aload_n hC.1 hC.2.1 dX10_pass__26 rfl (lv_at hl 0 rfl) ?_
    refine lv_iconst (v := 1) hC.1 hC.2.1 dX10_pass__27 (by decide) ?_
    refine g_calli0 hS (g_runV (n := 1) (rest := []) (As := [.int 1]) (C := RX10) (T := TX10) (N := 13) hC hS hk1 rfl rfl (c_X10_no l G ks ad 1 V3 _ h _) (gI wq_1102 wq_1104 wq_23 wq_46 wq_1105) rfl ⟨⟨by decide +kernel, by decide +kernel, by decide +kernel⟩, rfl, rfl, Nat.le_of_ble_eq_true rfl, Nat.le_of_ble_eq_true rfl⟩ rfl hl rfl (Nat.le_of_ble_eq_true rfl) dX10_pass__28 ⟨Nat.le_of_ble_eq_true rfl, Nat.le_of_ble_eq_true rfl⟩) (fun r6 V5 H locs h hS => ?_)
    exact g_iret hC hr hlk hS h dX10_pass__31
  · have h := h.2 c9
    refine lv_aload_n hC.1 hC.2.1 dX10_pass__15 rfl (lv_at hl 0 rfl) ?_
    refine gf_15_11 hC hS hk1 wq_1065 dX10_pass__16 ?_
    refine lv_iload_n hC.1 hC.2.1 dX10_pass__19 rfl (lv_at hl 1 rfl) ?_
    refine g_calli0 hS (g_runS (n := 2) (rest := []) (As := [.ref (ad 16 0 0), .int a1]) hC hS (c_X10_pass l G ks ad 0 a1 V3 _ h _) (gIS wq_1223 wq_1224 wq_46 wq_1225) ⟨⟨by decide +kernel, by decide +kernel, by decide +kernel⟩, rfl, rfl, Nat.le_of_ble_eq_true rfl, Nat.le_of_ble_eq_true rfl⟩ rfl hl rfl (Nat.le_of_ble_eq_true rfl) dX10_pass__20 ⟨Nat.le_of_ble_eq_true rfl, Nat.le_of_ble_eq_true rfl⟩) (fun r8 V7 H locs h hS => ?_)
    refine lv_goto (tgt := 31) hC.1 hC.2.1 dX10_pass__23 (by decide) ?_
    exact g_iret hC hr hlk hS h dX10_pass__31
def wp_X10_foresee (ks : List KY) (a1 : Int32) (a2 : Int32) (V : VS) (post : Int32 → VS → Prop) : Prop := ((15, 0, 0) ∈ ks ∧ ∀ V2 : VS, V2 = vup V 15 0 0 0 0 0 → wp_X10_isIn ks a1 1 60 V2 (fun r4 V3 => ((r4 = 0 → (wp_X10_no ks 1 V3 (fun r6 V5 => (post r6 V5)))) ∧ (¬ (r4 = 0) → (wp_X10_isIn ks a2 0 3 V3 (fun r8 V7 => ((r8 = 0 → (wp_X10_no ks 2 V7 (fun r10 V9 => (post r10 V9)))) ∧ (¬ (r8 = 0) → ((16, 1, 0) ∈ ks ∧ wp_X9_become ks 1 0 V7 (fun V11 => (wp_X10_pass ks 1 a1 V11 (fun r14 V13 => ((a2 = 0 → (post r14 V13)) ∧ (¬ (a2 = 0) → ((a2 = 1 → (wp_X9_missedOnes ks 1 V13 (fun r16 V15 => ((16, 0, 0) ∈ ks ∧ wp_X9_missedOnes ks 0 V15 (fun r19 V17 => (post (r16 - r19) V17)))))) ∧ (¬ (a2 = 1) → ((a2 = 2 → (wp_X9_many ks 1 (-1) V13 (fun r21 V20 => (post r21 V20)))) ∧ (¬ (a2 = 2) → (wp_X9_owed ks 1 V13 (fun r23 V22 => (post r23 V22)))))))))))))))))))))
set_option maxHeartbeats 4000000 in
set_option maxRecDepth 100000 in
theorem c_X10_foresee (l : Launch) (G : GG) (ks : List KY) (ad : AD) (a1 : Int32) (a2 : Int32) (V : VS) (post : Int32 → VS → Prop) (h : wp_X10_foresee ks a1 a2 V post) (sz : Nat) : Met l yX10_foresee (ws_ yX10_foresee cX10_foresee 4 (some .int)) ({ frames := 5, cells := 0, slots := 0, locals := 116 }) (mPc [.ref (ad 15 0 0), .int a1, .int a2] G ks ad V sz) (mQi post G ks ad sz) 0 0 (mA ks ad sz) := by
  refine g_met (own := RX10) (by decide) rfl (Nat.le_of_ble_eq_true rfl) ?_
  intro p e s m args below meth c ls hC hsz hr hlk hin hS ha hl
  have hl : lv_has ls 4 [(0, .ref (ad 15 0 0)), (1, .int a1), (2, .int a2)] := hl
  unfold wp_X10_foresee at h
  refine lv_aload_n hC.1 hC.2.1 dX10_foresee_0 rfl (lv_at hl 0 rfl) ?_
  refine lv_iconst (v := 0) hC.1 hC.2.1 dX10_foresee_1 (by decide) ?_
  obtain ⟨hk1, h⟩ := h
  refine pf_15_0 hC hS hk1 wq_1044 dX10_foresee_2 (fun H locs hS => ?_)
  obtain ⟨V2, eV2⟩ : ∃ z : VS, z = vup V 15 0 0 0 0 0 := ⟨_, rfl⟩
  rw [← eV2] at hS
  have h := h V2 eV2
  refine lv_iload_n hC.1 hC.2.1 dX10_foresee_5 rfl (lv_at hl 1 rfl) ?_
  refine lv_iconst (v := 1) hC.1 hC.2.1 dX10_foresee_6 (by decide) ?_
  refine lv_bipush (v := 60) hC.1 hC.2.1 dX10_foresee_7 (by decide) ?_
  refine g_calli0 hS (g_runS (n := 3) (rest := []) (As := [.int a1, .int 1, .int 60]) hC hS (c_X10_isIn l G ks ad a1 1 60 V2 _ h _) (gIS wq_1114 wq_1115 wq_46 wq_1116) ⟨⟨by decide +kernel, by decide +kernel, by decide +kernel⟩, rfl, rfl, Nat.le_of_ble_eq_true rfl, Nat.le_of_ble_eq_true rfl⟩ rfl hl rfl (Nat.le_of_ble_eq_true rfl) dX10_foresee_9 ⟨Nat.le_of_ble_eq_true rfl, Nat.le_of_ble_eq_true rfl⟩) (fun r4 V3 H locs h hS => ?_)
  refine lv_if_ne (tgt := 21) hC.1 hC.2.1 dX10_foresee_12 (by decide) (fun c28 => ?_) (fun c28 => ?_)
  · have h := h.2 c28
    refine lv_iload_n hC.1 hC.2.1 dX10_foresee_21 rfl (lv_at hl 2 rfl) ?_
    refine lv_iconst (v := 0) hC.1 hC.2.1 dX10_foresee_22 (by decide) ?_
    refine lv_iconst (v := 3) hC.1 hC.2.1 dX10_foresee_23 (by decide) ?_
    refine g_calli0 hS (g_runS (n := 3) (rest := []) (As := [.int a2, .int 0, .int 3]) hC hS (c_X10_isIn l G ks ad a2 0 3 V3 _ h _) (gIS wq_1114 wq_1115 wq_46 wq_1116) ⟨⟨by decide +kernel, by decide +kernel, by decide +kernel⟩, rfl, rfl, Nat.le_of_ble_eq_true rfl, Nat.le_of_ble_eq_true rfl⟩ rfl hl rfl (Nat.le_of_ble_eq_true rfl) dX10_foresee_24 ⟨Nat.le_of_ble_eq_true rfl, Nat.le_of_ble_eq_true rfl⟩) (fun r8 V7 H locs h hS => ?_)
    refine lv_if_ne (tgt := 36) hC.1 hC.2.1 dX10_foresee_27 (by decide) (fun c27 => ?_) (fun c27 => ?_)
    · have h := h.2 c27
      refine lv_aload_n hC.1 hC.2.1 dX10_foresee_36 rfl (lv_at hl 0 rfl) ?_
      refine gf_15_12 hC hS hk1 wq_1066 dX10_foresee_37 ?_
      refine lv_aload_n hC.1 hC.2.1 dX10_foresee_40 rfl (lv_at hl 0 rfl) ?_
      refine gf_15_11 hC hS hk1 wq_1065 dX10_foresee_41 ?_
      obtain ⟨hk12, h⟩ := h
      refine g_callv0 hS (g_runV (n := 1) (rest := []) (As := [.ref (ad 16 0 0)]) (C := RX9) (T := TX9) (N := 17) hC hS hk12 rfl rfl (c_X9_become l G ks ad 1 0 V7 _ h _) (gI wq_1267 wq_1268 wq_1269 wq_47 wq_1270) rfl ⟨⟨by decide +kernel, by decide +kernel, by decide +kernel⟩, rfl, rfl, Nat.le_of_ble_eq_true rfl, Nat.le_of_ble_eq_true rfl⟩ rfl hl rfl (Nat.le_of_ble_eq_true rfl) dX10_foresee_44 ⟨Nat.le_of_ble_eq_true rfl, Nat.le_of_ble_eq_true rfl⟩) (fun V11 H locs h hS => ?_)
      refine lv_aload_n hC.1 hC.2.1 dX10_foresee_47 rfl (lv_at hl 0 rfl) ?_
      refine gf_15_12 hC hS hk1 wq_1066 dX10_foresee_48 ?_
      refine lv_iload_n hC.1 hC.2.1 dX10_foresee_51 rfl (lv_at hl 1 rfl) ?_
      refine g_calli0 hS (g_runS (n := 2) (rest := []) (As := [.ref (ad 16 1 0), .int a1]) hC hS (c_X10_pass l G ks ad 1 a1 V11 _ h _) (gIS wq_1223 wq_1224 wq_46 wq_1225) ⟨⟨by decide +kernel, by decide +kernel, by decide +kernel⟩, rfl, rfl, Nat.le_of_ble_eq_true rfl, Nat.le_of_ble_eq_true rfl⟩ rfl hl rfl (Nat.le_of_ble_eq_true rfl) dX10_foresee_52 ⟨Nat.le_of_ble_eq_true rfl, Nat.le_of_ble_eq_true rfl⟩) (fun r14 V13 H locs h hS => ?_)
      refine lv_istore_n (lv' := [(3, .int r14), (0, .ref (ad 15 0 0)), (1, .int a1), (2, .int a2)]) hC.1 hC.2.1 dX10_foresee_55 rfl hl (by decide) rfl (fun ls hl => ?_)
      refine lv_iload_n hC.1 hC.2.1 dX10_foresee_56 rfl (lv_at hl 3 rfl) ?_
      refine lv_if_ne (tgt := 64) hC.1 hC.2.1 dX10_foresee_57 (by decide) (fun c26 => ?_) (fun c26 => ?_)
      · have h := h.2 c26
        refine lv_iload_n hC.1 hC.2.1 dX10_foresee_64 rfl (lv_at hl 3 rfl) ?_
        refine lv_iconst (v := 1) hC.1 hC.2.1 dX10_foresee_65 (by decide) ?_
        refine lv_icmp_ne (tgt := 87) hC.1 hC.2.1 dX10_foresee_66 (by decide) (fun c25 => ?_) (fun c25 => ?_)
        · have h := h.2 c25
          refine lv_iload_n hC.1 hC.2.1 dX10_foresee_87 rfl (lv_at hl 3 rfl) ?_
          refine lv_iconst (v := 2) hC.1 hC.2.1 dX10_foresee_88 (by decide) ?_
          refine lv_icmp_ne (tgt := 103) hC.1 hC.2.1 dX10_foresee_89 (by decide) (fun c24 => ?_) (fun c24 => ?_)
          · have h := h.2 c24
            refine lv_aload_n hC.1 hC.2.1 dX10_foresee_103 rfl (lv_at hl 1 rfl) ?_
            refine gf_15_12 hC hS hk1 wq_1066 dX10_foresee_104 ?_
            refine g_calli0 hS (g_runV (n := 0) (rest := []) (As := []) (C := RX9) (T := TX9) (N := 17) hC hS hk12 rfl rfl (c_X9_owed l G ks ad 1 V13 _ h _) (gI wq_1259 wq_1260 wq_1261 wq_47 wq_1262) rfl ⟨⟨by decide +kernel, by decide +kernel, by decide +kernel⟩, rfl, rfl, Nat.le_of_ble_eq_true rfl, Nat.le_of_ble_eq_true rfl⟩ rfl hl rfl (Nat.le_of_ble_eq_true rfl) dX10_foresee_107 ⟨Nat.le_of_ble_eq_true rfl, Nat.le_of_ble_eq_true rfl⟩) (fun r23 V22 H locs h hS => ?_)
            exact g_iret hC hr hlk hS h dX10_foresee_110
          · have h := h.1 c24
            refine lv_aload_n hC.1 hC.2.1 dX10_foresee_92 rfl (lv_at hl 1 rfl) ?_
            refine gf_15_12 hC hS hk1 wq_1066 dX10_foresee_93 ?_
            refine lv_iconst (v := (-1)) hC.1 hC.2.1 dX10_foresee_96 (by decide) ?_
            refine g_calli0 hS (g_runV (n := 1) (rest := []) (As := [.int (-1)]) (C := RX9) (T := TX9) (N := 17) hC hS hk12 rfl rfl (c_X9_many l G ks ad 1 (-1) V13 _ h _) (gI wq_1210 wq_1211 wq_1212 wq_47 wq_1213) rfl ⟨⟨by decide +kernel, by decide +kernel, by decide +kernel⟩, rfl, rfl, Nat.le_of_ble_eq_true rfl, Nat.le_of_ble_eq_true rfl⟩ rfl hl rfl (Nat.le_of_ble_eq_true rfl) dX10_foresee_97 ⟨Nat.le_of_ble_eq_true rfl, Nat.le_of_ble_eq_true rfl⟩) (fun r21 V20 H locs h hS => ?_)
            refine lv_goto (tgt := 110) hC.1 hC.2.1 dX10_foresee_100 (by decide) ?_
            exact g_iret hC hr hlk hS h dX10_foresee_110
        · have h := h.1 c25
          refine lv_aload_n hC.1 hC.2.1 dX10_foresee_69 rfl (lv_at hl 1 rfl) ?_
          refine gf_15_12 hC hS hk1 wq_1066 dX10_foresee_70 ?_
          refine g_calli0 hS (g_runV (n := 0) (rest := []) (As := []) (C := RX9) (T := TX9) (N := 17) hC hS hk12 rfl rfl (c_X9_missedOnes l G ks ad 1 V13 _ h _) (gI wq_1276 wq_1277 wq_1278 wq_47 wq_1279) rfl ⟨⟨by decide +kernel, by decide +kernel, by decide +kernel⟩, rfl, rfl, Nat.le_of_ble_eq_true rfl, Nat.le_of_ble_eq_true rfl⟩ rfl hl rfl (Nat.le_of_ble_eq_true rfl) dX10_foresee_73 ⟨Nat.le_of_ble_eq_true rfl, Nat.le_of_ble_eq_true rfl⟩) (fun r16 V15 H locs h hS => ?_)
          refine lv_aload_n hC.1 hC.2.1 dX10_foresee_76 rfl (lv_at hl 1 rfl) ?_
          refine gf_15_11 hC hS hk1 wq_1065 dX10_foresee_77 ?_
          obtain ⟨hk18, h⟩ := h
          refine g_calli0 hS (g_runV (n := 0) (rest := [.int r16]) (As := []) (C := RX9) (T := TX9) (N := 17) hC hS hk18 rfl rfl (c_X9_missedOnes l G ks ad 0 V15 _ h _) (gI wq_1276 wq_1277 wq_1278 wq_47 wq_1279) rfl ⟨⟨by decide +kernel, by decide +kernel, by decide +kernel⟩, rfl, rfl, Nat.le_of_ble_eq_true rfl, Nat.le_of_ble_eq_true rfl⟩ rfl hl rfl (Nat.le_of_ble_eq_true rfl) dX10_foresee_80 ⟨Nat.le_of_ble_eq_true rfl, Nat.le_of_ble_eq_true rfl⟩) (fun r19 V17 H locs h hS => ?_)
          refine lv_isub hC.1 hC.2.1 dX10_foresee_83 ?_
          refine lv_goto (tgt := 110) hC.1 hC.2.1 dX10_foresee_84 (by decide) ?_
          exact g_iret hC hr hlk hS h dX10_foresee_110
      · have h := h.1 c26
        refine lv_iload_n hC.1 hC.2.1 dX10_foresee_60 rfl (lv_at hl 0 rfl) ?_
        refine lv_goto (tgt := 110) hC.1 hC.2.1 dX10_foresee_61 (by decide) ?_
        exact g_iret hC hr hlk hS h dX10_foresee_110
    · have h := h.1 c27
      refine lv_aload_n hC.1 hC.2.1 dX10_foresee_30 rfl (lv_at hl 0 rfl) ?_
      refine lv_iconst (v := 2) hC.1 hC.2.1 dX10_foresee_31 (by decide) ?_
      refine g_calli0 hS (g_runV (n := 1) (rest := []) (As := [.int 2]) (C := RX10) (T := TX10) (N := 13) hC hS hk1 rfl rfl (c_X10_no l G ks ad 2 V7 _ h _) (gI wq_1102 wq_1104 wq_23 wq_46 wq_1105) rfl ⟨⟨by decide +kernel, by decide +kernel, by decide +kernel⟩, rfl, rfl, Nat.le_of_ble_eq_true rfl, Nat.le_of_ble_eq_true rfl⟩ rfl hl rfl (Nat.le_of_ble_eq_true rfl) dX10_foresee_32 ⟨Nat.le_of_ble_eq_true rfl, Nat.le_of_ble_eq_true rfl⟩) (fun r10 V9 H locs h hS => ?_)
      exact g_iret hC hr hlk hS h dX10_foresee_35
  · have h := h.1 c28
    refine lv_aload_n hC.1 hC.2.1 dX10_foresee_15 rfl (lv_at hl 0 rfl) ?_
    refine lv_iconst (v := 1) hC.1 hC.2.1 dX10_foresee_16 (by decide) ?_
    refine g_calli0 hS (g_runV (n := 1) (rest := []) (As := [.int 1]) (C := RX10) (T := TX10) (N := 13) hC hS hk1 rfl rfl (c_X10_no l G ks ad 1 V3 _ h _) (gI wq_1102 wq_1104 wq_23 wq_46 wq_1105) rfl ⟨⟨by decide +kernel, by decide +kernel, by decide +kernel⟩, rfl, rfl, Nat.le_of_ble_eq_true rfl, Nat.le_of_ble_eq_true rfl⟩ rfl hl rfl (Nat.le_of_ble_eq_true rfl) dX10_foresee_17 ⟨Nat.le_of_ble_eq_true rfl, Nat.le_of_ble_eq_true rfl⟩) (fun r6 V5 H locs h hS => ?_)
    exact g_iret hC hr hlk hS h dX10_foresee_20
def wb_X10_gets_73 (ks : List KY) (a1 : Int32) (a2 : Int32) (post : Int32 → VS → Prop) (x1 : Int32) (x2 : Int32) (x3 : Int32) (V : VS) : Prop := ((15, 0, 0) ∈ ks ∧ (16, 1, 0) ∈ ks ∧ (26, 1, 0) ∈ ks ∧ vp_in x2 24 ∧ ((V 26 1 0 0 x2.toNatClampNeg) = x1 → (post x3 V)) ∧ (¬ ((V 26 1 0 0 x2.toNatClampNeg) = x1) → (post (-1) V)))
def wk_X10_gets_40 (ks : List KY) (a1 : Int32) (a2 : Int32) (post : Int32 → VS → Prop) (B40 : Int32 → VS → Prop) (x1 : Int32) (x2 : Int32) (x3 : Int32) (V : VS) : Prop := ((15, 0, 0) ∈ ks ∧ (16, 1, 0) ∈ ks ∧ (26, 1, 0) ∈ ks ∧ vp_in x2 24 ∧ ((V 26 1 0 0 x2.toNatClampNeg) = x1 → wb_X10_gets_73 ks a1 a2 post x1 x2 x3 V) ∧ (¬ ((V 26 1 0 0 x2.toNatClampNeg) = x1) → (((100 : Int32) ≤ x3 → wb_X10_gets_73 ks a1 a2 post x1 x2 x3 V) ∧ (¬ ((100 : Int32) ≤ x3) → (wp_X9_pass ks 1 V (fun r11 V10 => (∀ y12 : Int32, y12 = x3 + 1 → B40 y12 V10)))))))
def wl_X10_gets_40 (ks : List KY) (a1 : Int32) (a2 : Int32) (post : Int32 → VS → Prop) (x1 : Int32) (x2 : Int32) (x3 : Int32) (V : VS) : Prop := ∃ J : Nat → Int32 → VS → Prop, (∃ n, J n x3 V) ∧ ∀ (n : Nat) (x3 : Int32) (V : VS), J n x3 V → wk_X10_gets_40 ks a1 a2 post (fun x3 V => ∃ n', n' < n ∧ J n' x3 V) x1 x2 x3 V
def wp_X10_gets (ks : List KY) (a1 : Int32) (a2 : Int32) (V : VS) (post : Int32 → VS → Prop) : Prop := ((15, 0, 0) ∈ ks ∧ ∀ V16 : VS, V16 = vup V 15 0 0 0 0 0 → wp_X10_isReader ks a1 V16 (fun r18 V17 => ((r18 = 0 → (wp_X10_no ks 1 V17 (fun r20 V19 => (post r20 V19)))) ∧ (¬ (r18 = 0) → (wp_X10_isBook ks a2 V17 (fun r22 V21 => ((r22 = 0 → (wp_X10_no ks 1 V21 (fun r24 V23 => (post r24 V23)))) ∧ (¬ (r22 = 0) → ((16, 1, 0) ∈ ks ∧ wp_X9_become ks 1 0 V21 (fun V25 => (wl_X10_gets_40 ks a1 a2 post a1 a2 0 V25)))))))))))
set_option maxHeartbeats 4000000 in
set_option maxRecDepth 100000 in
theorem c_X10_gets (l : Launch) (G : GG) (ks : List KY) (ad : AD) (a1 : Int32) (a2 : Int32) (V : VS) (post : Int32 → VS → Prop) (h : wp_X10_gets ks a1 a2 V post) (sz : Nat) : Met l yX10_gets (ws_ yX10_gets cX10_gets 4 (some .int)) ({ frames := 4, cells := 0, slots := 0, locals := 93 }) (mPc [.ref (ad 15 0 0), .int a1, .int a2] G ks ad V sz) (mQi post G ks ad sz) 0 0 (mA ks ad sz) := by
  refine g_met (own := RX10) (by decide) rfl (Nat.le_of_ble_eq_true rfl) ?_
  intro p e s m args below meth c ls hC hsz hr hlk hin hS ha hl
  have hl : lv_has ls 4 [(0, .ref (ad 15 0 0)), (1, .int a1), (2, .int a2)] := hl
  unfold wp_X10_gets at h
  have kT73 : ∀ (x1 : Int32) (x2 : Int32) (x3 : Int32) (V : VS) (H : Heap) (locs : List Loc) (ls : Array Slot), wb_X10_gets_73 ks a1 a2 post x1 x2 x3 V → ST G ks ad V (mA ks ad sz) s.heap H locs → lv_has ls 4 [(0, .ref (ad 15 0 0)), (1, .int x1), (2, .int x2), (3, .int x3)] → W p l e ({ frames := 4, cells := 0, slots := 0, locals := 93 } : Room) s m args below meth c H locs 0 0 (MQ below (mQi post G ks ad sz) args s 0 0 (mA ks ad sz)) (F0 m 73 ls []) := by
    intro x1 x2 x3 V H locs ls h hS hl
    unfold wb_X10_gets_73 at h
    refine lv_aload_n hC.1 hC.2.1 dX10_gets_73 rfl (lv_at hl 0 rfl) ?_
    obtain ⟨hk1, h⟩ := h
    refine gf_15_12 hC hS hk1 wq_1066 dX10_gets_74 ?_
    obtain ⟨hk2, h⟩ := h
    refine gn_16_8 hC hS hk2 wq_993 dX10_gets_77 ?_
    refine lv_iload_n hC.1 hC.2.1 dX10_gets_80 rfl (lv_at hl 2 rfl) ?_
    obtain ⟨hk3, h⟩ := h
    obtain ⟨hx4, h⟩ := h
    refine g_iald hC hS hk3 (by decide) hx4 dX10_gets_81 ?_
    refine lv_iload_n hC.1 hC.2.1 dX10_gets_82 rfl (lv_at hl 1 rfl) ?_
    refine lv_icmp_ne (tgt := 90) hC.1 hC.2.1 dX10_gets_83 (by decide) (fun c5 => ?_) (fun c5 => ?_)
    · have h := h.2 c5
      refine lv_iconst (v := (-1)) hC.1 hC.2.1 dX10_gets_90 (by decide) ?_
      exact g_iret hC hr hlk hS h dX10_gets_91
    · have h := h.1 c5
      refine lv_iload_n hC.1 hC.2.1 dX10_gets_86 rfl (lv_at hl 3 rfl) ?_
      refine lv_goto (tgt := 91) hC.1 hC.2.1 dX10_gets_87 (by decide) ?_
      exact g_iret hC hr hlk hS h dX10_gets_91
  have kT40 : ∀ (x1 : Int32) (x2 : Int32) (x3 : Int32) (V : VS) (H : Heap) (locs : List Loc) (ls : Array Slot), wl_X10_gets_40 ks a1 a2 post x1 x2 x3 V → ST G ks ad V (mA ks ad sz) s.heap H locs → lv_has ls 4 [(0, .ref (ad 15 0 0)), (1, .int x1), (2, .int x2), (3, .int x3)] → W p l e ({ frames := 4, cells := 0, slots := 0, locals := 93 } : Room) s m args below meth c H locs 0 0 (MQ below (mQi post G ks ad sz) args s 0 0 (mA ks ad sz)) (F0 m 40 ls []) := by
    intro x1 x2 x3 V H locs ls h hS hl
    obtain ⟨J, ⟨n, hJ⟩, hb⟩ := h
    induction n using Nat.strongRecOn generalizing x3 V H locs ls with
    | _ n ih =>
      have h := hb n x3 V hJ
      obtain ⟨B40, eB⟩ : ∃ z : Int32 → VS → Prop, z = (fun x3 V => ∃ n', n' < n ∧ J n' x3 V) := ⟨_, rfl⟩
      rw [← eB] at h
      have kB40 : ∀ (x3 : Int32) (V : VS) (H : Heap) (locs : List Loc) (ls : Array Slot), B40 x3 V → ST G ks ad V (mA ks ad sz) s.heap H locs → lv_has ls 4 [(0, .ref (ad 15 0 0)), (1, .int x1), (2, .int x2), (3, .int x3)] → W p l e ({ frames := 4, cells := 0, slots := 0, locals := 93 } : Room) s m args below meth c H locs 0 0 (MQ below (mQi post G ks ad sz) args s 0 0 (mA ks ad sz)) (F0 m 40 ls []) := by
        intro x3 V H locs ls h hS hl
        rw [eB] at h
        obtain ⟨n', hn, hJ'⟩ := h
        exact ih n' hn _ _ _ _ _ hS hl hJ'
      clear ih hJ hb eB
      unfold wk_X10_gets_40 at h
      refine lv_aload_n hC.1 hC.2.1 dX10_gets_40 rfl (lv_at hl 0 rfl) ?_
      obtain ⟨hk6, h⟩ := h
      refine gf_15_12 hC hS hk6 wq_1066 dX10_gets_41 ?_
      obtain ⟨hk7, h⟩ := h
      refine gn_16_8 hC hS hk7 wq_993 dX10_gets_44 ?_
      refine lv_iload_n hC.1 hC.2.1 dX10_gets_47 rfl (lv_at hl 2 rfl) ?_
      obtain ⟨hk8, h⟩ := h
      obtain ⟨hx9, h⟩ := h
      refine g_iald hC hS hk8 (by decide) hx9 dX10_gets_48 ?_
      refine lv_iload_n hC.1 hC.2.1 dX10_gets_49 rfl (lv_at hl 1 rfl) ?_
      refine lv_icmp_eq (tgt := 73) hC.1 hC.2.1 dX10_gets_50 (by decide) (fun c14 => ?_) (fun c14 => ?_)
      · have h := h.1 c14
        exact kT73 _ _ _ _ _ _ _ h hS (lv_sub hl [0, 1, 2, 3] rfl)
      · have h := h.2 c14
        refine lv_iload_n hC.1 hC.2.1 dX10_gets_53 rfl (lv_at hl 3 rfl) ?_
        refine lv_bipush (v := 100) hC.1 hC.2.1 dX10_gets_54 (by decide) ?_
        refine lv_icmp_ge (tgt := 73) hC.1 hC.2.1 dX10_gets_56 (by decide) (fun c13 => ?_) (fun c13 => ?_)
        · have h := h.1 c13
          exact kT73 _ _ _ _ _ _ _ h hS (lv_sub hl [0, 1, 2, 3] rfl)
        · have h := h.2 c13
          refine lv_aload_n hC.1 hC.2.1 dX10_gets_59 rfl (lv_at hl 0 rfl) ?_
          refine gf_15_12 hC hS hk6 wq_1066 dX10_gets_60 ?_
          refine g_calli0 hS (g_runV (n := 0) (rest := []) (As := []) (C := RX9) (T := TX9) (N := 17) hC hS hk7 rfl rfl (c_X9_pass l G ks ad 1 V _ h _) (gI wq_1226 wq_1227 wq_1228 wq_47 wq_1229) rfl ⟨⟨by decide +kernel, by decide +kernel, by decide +kernel⟩, rfl, rfl, Nat.le_of_ble_eq_true rfl, Nat.le_of_ble_eq_true rfl⟩ rfl hl rfl (Nat.le_of_ble_eq_true rfl) dX10_gets_63 ⟨Nat.le_of_ble_eq_true rfl, Nat.le_of_ble_eq_true rfl⟩) (fun r11 V10 H locs h hS => ?_)
          refine lv_pop hC.1 hC.2.1 dX10_gets_66 rfl ?_
          obtain ⟨y12, ey12⟩ : ∃ z : Int32, z = x3 + 1 := ⟨_, rfl⟩
          have h := h y12 ey12
          refine lv_iinc (v := y12) (lv' := [(3, .int y12), (0, .ref (ad 15 0 0)), (1, .int x1), (2, .int x2)]) hC.1 hC.2.1 dX10_gets_67 hl (k := 3) rfl (by rw [ey12]; rfl) (by decide) rfl (fun ls hl => ?_)
          refine lv_goto (tgt := 40) hC.1 hC.2.1 dX10_gets_70 (by decide) ?_
          exact kB40 _ _ _ _ _ h hS (lv_sub hl [1, 2, 3, 0] rfl)
  refine lv_aload_n hC.1 hC.2.1 dX10_gets_0 rfl (lv_at hl 0 rfl) ?_
  refine lv_iconst (v := 0) hC.1 hC.2.1 dX10_gets_1 (by decide) ?_
  obtain ⟨hk15, h⟩ := h
  refine pf_15_0 hC hS hk15 wq_1044 dX10_gets_2 (fun H locs hS => ?_)
  obtain ⟨V16, eV16⟩ : ∃ z : VS, z = vup V 15 0 0 0 0 0 := ⟨_, rfl⟩
  rw [← eV16] at hS
  have h := h V16 eV16
  refine lv_aload_n hC.1 hC.2.1 dX10_gets_5 rfl (lv_at hl 0 rfl) ?_
  refine lv_iload_n hC.1 hC.2.1 dX10_gets_6 rfl (lv_at hl 1 rfl) ?_
  refine g_calli0 hS (g_runV (n := 1) (rest := []) (As := [.int a1]) (C := RX10) (T := TX10) (N := 13) hC hS hk15 rfl rfl (c_X10_isReader l G ks ad a1 V16 _ h _) (gI wq_1174 wq_1176 wq_28 wq_46 wq_1177) rfl ⟨⟨by decide +kernel, by decide +kernel, by decide +kernel⟩, rfl, rfl, Nat.le_of_ble_eq_true rfl, Nat.le_of_ble_eq_true rfl⟩ rfl hl rfl (Nat.le_of_ble_eq_true rfl) dX10_gets_7 ⟨Nat.le_of_ble_eq_true rfl, Nat.le_of_ble_eq_true rfl⟩) (fun r18 V17 H locs h hS => ?_)
  refine lv_if_eq (tgt := 21) hC.1 hC.2.1 dX10_gets_10 (by decide) (fun c28 => ?_) (fun c28 => ?_)
  · have h := h.1 c28
    refine lv_aload_n hC.1 hC.2.1 dX10_gets_21 rfl (lv_at hl 0 rfl) ?_
    refine lv_iconst (v := 1) hC.1 hC.2.1 dX10_gets_22 (by decide) ?_
    refine g_calli0 hS (g_runV (n := 1) (rest := []) (As := [.int 1]) (C := RX10) (T := TX10) (N := 13) hC hS hk15 rfl rfl (c_X10_no l G ks ad 1 V17 _ h _) (gI wq_1102 wq_1104 wq_23 wq_46 wq_1105) rfl ⟨⟨by decide +kernel, by decide +kernel, by decide +kernel⟩, rfl, rfl, Nat.le_of_ble_eq_true rfl, Nat.le_of_ble_eq_true rfl⟩ rfl hl rfl (Nat.le_of_ble_eq_true rfl) dX10_gets_23 ⟨Nat.le_of_ble_eq_true rfl, Nat.le_of_ble_eq_true rfl⟩) (fun r20 V19 H locs h hS => ?_)
    exact g_iret hC hr hlk hS h dX10_gets_26
  · have h := h.2 c28
    refine lv_aload_n hC.1 hC.2.1 dX10_gets_13 rfl (lv_at hl 0 rfl) ?_
    refine lv_iload_n hC.1 hC.2.1 dX10_gets_14 rfl (lv_at hl 2 rfl) ?_
    refine g_calli0 hS (g_runV (n := 1) (rest := []) (As := [.int a2]) (C := RX10) (T := TX10) (N := 13) hC hS hk15 rfl rfl (c_X10_isBook l G ks ad a2 V17 _ h _) (gI wq_1178 wq_1180 wq_29 wq_46 wq_1181) rfl ⟨⟨by decide +kernel, by decide +kernel, by decide +kernel⟩, rfl, rfl, Nat.le_of_ble_eq_true rfl, Nat.le_of_ble_eq_true rfl⟩ rfl hl rfl (Nat.le_of_ble_eq_true rfl) dX10_gets_15 ⟨Nat.le_of_ble_eq_true rfl, Nat.le_of_ble_eq_true rfl⟩) (fun r22 V21 H locs h hS => ?_)
    refine lv_if_ne (tgt := 27) hC.1 hC.2.1 dX10_gets_18 (by decide) (fun c27 => ?_) (fun c27 => ?_)
    · have h := h.2 c27
      refine lv_aload_n hC.1 hC.2.1 dX10_gets_27 rfl (lv_at hl 0 rfl) ?_
      refine gf_15_12 hC hS hk15 wq_1066 dX10_gets_28 ?_
      refine lv_aload_n hC.1 hC.2.1 dX10_gets_31 rfl (lv_at hl 0 rfl) ?_
      refine gf_15_11 hC hS hk15 wq_1065 dX10_gets_32 ?_
      obtain ⟨hk26, h⟩ := h
      refine g_callv0 hS (g_runV (n := 1) (rest := []) (As := [.ref (ad 16 0 0)]) (C := RX9) (T := TX9) (N := 17) hC hS hk26 rfl rfl (c_X9_become l G ks ad 1 0 V21 _ h _) (gI wq_1267 wq_1268 wq_1269 wq_47 wq_1270) rfl ⟨⟨by decide +kernel, by decide +kernel, by decide +kernel⟩, rfl, rfl, Nat.le_of_ble_eq_true rfl, Nat.le_of_ble_eq_true rfl⟩ rfl hl rfl (Nat.le_of_ble_eq_true rfl) dX10_gets_35 ⟨Nat.le_of_ble_eq_true rfl, Nat.le_of_ble_eq_true rfl⟩) (fun V25 H locs h hS => ?_)
      refine lv_iconst (v := 0) hC.1 hC.2.1 dX10_gets_38 (by decide) ?_
      refine lv_istore_n (lv' := [(3, .int 0), (0, .ref (ad 15 0 0)), (1, .int a1), (2, .int a2)]) hC.1 hC.2.1 dX10_gets_39 rfl hl (by decide) rfl (fun ls hl => ?_)
      exact kT40 _ _ _ _ _ _ _ h hS (lv_sub hl [1, 2, 3, 0] rfl)
    · have h := h.1 c27
      refine lv_aload_n hC.1 hC.2.1 dX10_gets_21 rfl (lv_at hl 0 rfl) ?_
      refine lv_iconst (v := 1) hC.1 hC.2.1 dX10_gets_22 (by decide) ?_
      refine g_calli0 hS (g_runV (n := 1) (rest := []) (As := [.int 1]) (C := RX10) (T := TX10) (N := 13) hC hS hk15 rfl rfl (c_X10_no l G ks ad 1 V21 _ h _) (gI wq_1102 wq_1104 wq_23 wq_46 wq_1105) rfl ⟨⟨by decide +kernel, by decide +kernel, by decide +kernel⟩, rfl, rfl, Nat.le_of_ble_eq_true rfl, Nat.le_of_ble_eq_true rfl⟩ rfl hl rfl (Nat.le_of_ble_eq_true rfl) dX10_gets_23 ⟨Nat.le_of_ble_eq_true rfl, Nat.le_of_ble_eq_true rfl⟩) (fun r24 V23 H locs h hS => ?_)
      exact g_iret hC hr hlk hS h dX10_gets_26
def wk_X10_advise_64 (ks : List KY) (a1 : Int32) (post : Int32 → VS → Prop) (B64 : Int32 → Int32 → Int32 → VS → Prop) (x1 : Int32) (x2 : Int32) (x3 : Int32) (x4 : Int32) (V : VS) : Prop := ((15, 0, 0) ∈ ks ∧ ((V 15 0 0 1 0) ≤ x4 → (post x2 V)) ∧ (¬ ((V 15 0 0 1 0) ≤ x4) → ((16, 1, 0) ∈ ks ∧ wp_X9_become ks 1 0 V (fun V2 => ((23, 1, 0) ∈ ks ∧ vp_in (V2 16 1 0 5 0) 8 ∧ ∀ V6 : VS, V6 = vup V2 23 1 0 0 (V2 16 1 0 5 0).toNatClampNeg x4 → ∀ V7 : VS, V7 = vup V6 16 1 0 5 0 ((V6 16 1 0 5 0) + 1) → wp_X10_pass ks 1 x1 V7 (fun r9 V8 => ((x3 < r9 → (∀ y10 : Int32, y10 = x4 + 1 → B64 x4 r9 y10 V8)) ∧ (¬ (x3 < r9) → (∀ y11 : Int32, y11 = x4 + 1 → B64 x2 x3 y11 V8)))))))))
def wl_X10_advise_64 (ks : List KY) (a1 : Int32) (post : Int32 → VS → Prop) (x1 : Int32) (x2 : Int32) (x3 : Int32) (x4 : Int32) (V : VS) : Prop := ∃ J : Nat → Int32 → Int32 → Int32 → VS → Prop, (∃ n, J n x2 x3 x4 V) ∧ ∀ (n : Nat) (x2 : Int32) (x3 : Int32) (x4 : Int32) (V : VS), J n x2 x3 x4 V → wk_X10_advise_64 ks a1 post (fun x2 x3 x4 V => ∃ n', n' < n ∧ J n' x2 x3 x4 V) x1 x2 x3 x4 V
def wp_X10_advise (ks : List KY) (a1 : Int32) (V : VS) (post : Int32 → VS → Prop) : Prop := ((15, 0, 0) ∈ ks ∧ ∀ V15 : VS, V15 = vup V 15 0 0 0 0 0 → wp_X10_isIn ks a1 1 30 V15 (fun r17 V16 => ((r17 = 0 → (wp_X10_no ks 1 V16 (fun r19 V18 => (post r19 V18)))) ∧ (¬ (r17 = 0) → ((16, 0, 0) ∈ ks ∧ ((V16 16 0 0 5 0) = 8 → (wp_X10_no ks 2 V16 (fun r22 V21 => (post r22 V21)))) ∧ (¬ ((V16 16 0 0 5 0) = 8) → ((16, 1, 0) ∈ ks ∧ wp_X9_become ks 1 0 V16 (fun V23 => (wp_X10_pass ks 1 a1 V23 (fun r26 V25 => (wl_X10_advise_64 ks a1 post a1 (-1) r26 0 V25)))))))))))
set_option maxHeartbeats 4000000 in
set_option maxRecDepth 100000 in
theorem c_X10_advise (l : Launch) (G : GG) (ks : List KY) (ad : AD) (a1 : Int32) (V : VS) (post : Int32 → VS → Prop) (h : wp_X10_advise ks a1 V post) (sz : Nat) : Met l yX10_advise (ws_ yX10_advise cX10_advise 6 (some .int)) ({ frames := 5, cells := 0, slots := 0, locals := 116 }) (mPc [.ref (ad 15 0 0), .int a1] G ks ad V sz) (mQi post G ks ad sz) 0 0 (mA ks ad sz) := by
  refine g_met (own := RX10) (by decide) rfl (Nat.le_of_ble_eq_true rfl) ?_
  intro p e s m args below meth c ls hC hsz hr hlk hin hS ha hl
  have hl : lv_has ls 6 [(0, .ref (ad 15 0 0)), (1, .int a1)] := hl
  unfold wp_X10_advise at h
  have kT64 : ∀ (x1 : Int32) (x2 : Int32) (x3 : Int32) (x4 : Int32) (V : VS) (H : Heap) (locs : List Loc) (ls : Array Slot), wl_X10_advise_64 ks a1 post x1 x2 x3 x4 V → ST G ks ad V (mA ks ad sz) s.heap H locs → lv_has ls 6 [(0, .ref (ad 15 0 0)), (1, .int x1), (2, .int x2), (3, .int x3), (4, .int x4)] → W p l e ({ frames := 5, cells := 0, slots := 0, locals := 116 } : Room) s m args below meth c H locs 0 0 (MQ below (mQi post G ks ad sz) args s 0 0 (mA ks ad sz)) (F0 m 64 ls []) := by
    intro x1 x2 x3 x4 V H locs ls h hS hl
    obtain ⟨J, ⟨n, hJ⟩, hb⟩ := h
    induction n using Nat.strongRecOn generalizing x2 x3 x4 V H locs ls with
    | _ n ih =>
      have h := hb n x2 x3 x4 V hJ
      obtain ⟨B64, eB⟩ : ∃ z : Int32 → Int32 → Int32 → VS → Prop, z = (fun x2 x3 x4 V => ∃ n', n' < n ∧ J n' x2 x3 x4 V) := ⟨_, rfl⟩
      rw [← eB] at h
      have kB64 : ∀ (x2 : Int32) (x3 : Int32) (x4 : Int32) (V : VS) (H : Heap) (locs : List Loc) (ls : Array Slot), B64 x2 x3 x4 V → ST G ks ad V (mA ks ad sz) s.heap H locs → lv_has ls 6 [(0, .ref (ad 15 0 0)), (1, .int x1), (2, .int x2), (3, .int x3), (4, .int x4)] → W p l e ({ frames := 5, cells := 0, slots := 0, locals := 116 } : Room) s m args below meth c H locs 0 0 (MQ below (mQi post G ks ad sz) args s 0 0 (mA ks ad sz)) (F0 m 64 ls []) := by
        intro x2 x3 x4 V H locs ls h hS hl
        rw [eB] at h
        obtain ⟨n', hn, hJ'⟩ := h
        exact ih n' hn _ _ _ _ _ _ _ hS hl hJ'
      clear ih hJ hb eB
      unfold wk_X10_advise_64 at h
      refine lv_iload hC.1 hC.2.1 dX10_advise_64 (lv_at hl 4 rfl) ?_
      refine lv_aload_n hC.1 hC.2.1 dX10_advise_66 rfl (lv_at hl 0 rfl) ?_
      obtain ⟨hk1, h⟩ := h
      refine gf_15_1 hC hS hk1 wq_1045 dX10_advise_67 ?_
      refine lv_icmp_ge (tgt := 145) hC.1 hC.2.1 dX10_advise_70 (by decide) (fun c13 => ?_) (fun c13 => ?_)
      · have h := h.1 c13
        refine lv_iload_n hC.1 hC.2.1 dX10_advise_145 rfl (lv_at hl 2 rfl) ?_
        exact g_iret hC hr hlk hS h dX10_advise_146
      · have h := h.2 c13
        refine lv_aload_n hC.1 hC.2.1 dX10_advise_73 rfl (lv_at hl 0 rfl) ?_
        refine gf_15_12 hC hS hk1 wq_1066 dX10_advise_74 ?_
        refine lv_aload_n hC.1 hC.2.1 dX10_advise_77 rfl (lv_at hl 0 rfl) ?_
        refine gf_15_11 hC hS hk1 wq_1065 dX10_advise_78 ?_
        obtain ⟨hk3, h⟩ := h
        refine g_callv0 hS (g_runV (n := 1) (rest := []) (As := [.ref (ad 16 0 0)]) (C := RX9) (T := TX9) (N := 17) hC hS hk3 rfl rfl (c_X9_become l G ks ad 1 0 V _ h _) (gI wq_1267 wq_1268 wq_1269 wq_47 wq_1270) rfl ⟨⟨by decide +kernel, by decide +kernel, by decide +kernel⟩, rfl, rfl, Nat.le_of_ble_eq_true rfl, Nat.le_of_ble_eq_true rfl⟩ rfl hl rfl (Nat.le_of_ble_eq_true rfl) dX10_advise_81 ⟨Nat.le_of_ble_eq_true rfl, Nat.le_of_ble_eq_true rfl⟩) (fun V2 H locs h hS => ?_)
        refine lv_aload_n hC.1 hC.2.1 dX10_advise_84 rfl (lv_at hl 0 rfl) ?_
        refine gf_15_12 hC hS hk1 wq_1066 dX10_advise_85 ?_
        refine gn_16_4 hC hS hk3 wq_985 dX10_advise_88 ?_
        refine lv_aload_n hC.1 hC.2.1 dX10_advise_91 rfl (lv_at hl 0 rfl) ?_
        refine gf_15_12 hC hS hk1 wq_1066 dX10_advise_92 ?_
        refine gn_16_5 hC hS hk3 wq_987 dX10_advise_95 ?_
        refine lv_iload hC.1 hC.2.1 dX10_advise_98 (lv_at hl 4 rfl) ?_
        obtain ⟨hk4, h⟩ := h
        obtain ⟨hx5, h⟩ := h
        refine g_iast hC hS hk4 (by decide) hx5 dX10_advise_100 (fun H locs hS => ?_)
        obtain ⟨V6, eV6⟩ : ∃ z : VS, z = vup V2 23 1 0 0 (V2 16 1 0 5 0).toNatClampNeg x4 := ⟨_, rfl⟩
        rw [← eV6] at hS
        have h := h V6 eV6
        refine lv_aload_n hC.1 hC.2.1 dX10_advise_101 rfl (lv_at hl 0 rfl) ?_
        refine gf_15_12 hC hS hk1 wq_1066 dX10_advise_102 ?_
        refine lv_dup hC.1 hC.2.1 dX10_advise_105 rfl ?_
        refine gn_16_5 hC hS hk3 wq_987 dX10_advise_106 ?_
        refine lv_iconst (v := 1) hC.1 hC.2.1 dX10_advise_109 (by decide) ?_
        refine lv_iadd hC.1 hC.2.1 dX10_advise_110 ?_
        refine pn_16_5 hC hS hk3 wq_987 dX10_advise_111 (fun H locs hS => ?_)
        obtain ⟨V7, eV7⟩ : ∃ z : VS, z = vup V6 16 1 0 5 0 ((V6 16 1 0 5 0) + 1) := ⟨_, rfl⟩
        rw [← eV7] at hS
        have h := h V7 eV7
        refine lv_aload_n hC.1 hC.2.1 dX10_advise_114 rfl (lv_at hl 0 rfl) ?_
        refine gf_15_12 hC hS hk1 wq_1066 dX10_advise_115 ?_
        refine lv_iload_n hC.1 hC.2.1 dX10_advise_118 rfl (lv_at hl 1 rfl) ?_
        refine g_calli0 hS (g_runS (n := 2) (rest := []) (As := [.ref (ad 16 1 0), .int x1]) hC hS (c_X10_pass l G ks ad 1 x1 V7 _ h _) (gIS wq_1223 wq_1224 wq_46 wq_1225) ⟨⟨by decide +kernel, by decide +kernel, by decide +kernel⟩, rfl, rfl, Nat.le_of_ble_eq_true rfl, Nat.le_of_ble_eq_true rfl⟩ rfl hl rfl (Nat.le_of_ble_eq_true rfl) dX10_advise_119 ⟨Nat.le_of_ble_eq_true rfl, Nat.le_of_ble_eq_true rfl⟩) (fun r9 V8 H locs h hS => ?_)
        refine lv_istore (lv' := [(5, .int r9), (0, .ref (ad 15 0 0)), (1, .int x1), (2, .int x2), (3, .int x3), (4, .int x4)]) hC.1 hC.2.1 dX10_advise_122 hl (by decide) rfl (fun ls hl => ?_)
        refine lv_iload hC.1 hC.2.1 dX10_advise_124 (lv_at hl 0 rfl) ?_
        refine lv_iload_n hC.1 hC.2.1 dX10_advise_126 rfl (lv_at hl 4 rfl) ?_
        refine lv_icmp_gt (tgt := 133) hC.1 hC.2.1 dX10_advise_127 (by decide) (fun c12 => ?_) (fun c12 => ?_)
        · have h := h.1 c12
          refine lv_iload hC.1 hC.2.1 dX10_advise_133 (lv_at hl 5 rfl) ?_
          refine lv_istore_n (lv' := [(2, .int x4), (5, .int r9), (0, .ref (ad 15 0 0)), (1, .int x1), (3, .int x3), (4, .int x4)]) hC.1 hC.2.1 dX10_advise_135 rfl hl (by decide) rfl (fun ls hl => ?_)
          refine lv_iload hC.1 hC.2.1 dX10_advise_136 (lv_at hl 1 rfl) ?_
          refine lv_istore_n (lv' := [(3, .int r9), (2, .int x4), (5, .int r9), (0, .ref (ad 15 0 0)), (1, .int x1), (4, .int x4)]) hC.1 hC.2.1 dX10_advise_138 rfl hl (by decide) rfl (fun ls hl => ?_)
          obtain ⟨y10, ey10⟩ : ∃ z : Int32, z = x4 + 1 := ⟨_, rfl⟩
          have h := h y10 ey10
          refine lv_iinc (v := y10) (lv' := [(4, .int y10), (3, .int r9), (2, .int x4), (5, .int r9), (0, .ref (ad 15 0 0)), (1, .int x1)]) hC.1 hC.2.1 dX10_advise_139 hl (k := 5) rfl (by rw [ey10]; rfl) (by decide) rfl (fun ls hl => ?_)
          refine lv_goto (tgt := 64) hC.1 hC.2.1 dX10_advise_142 (by decide) ?_
          exact kB64 _ _ _ _ _ _ _ h hS (lv_sub hl [4, 5, 2, 1, 0] rfl)
        · have h := h.2 c12
          refine lv_goto (tgt := 139) hC.1 hC.2.1 dX10_advise_130 (by decide) ?_
          obtain ⟨y11, ey11⟩ : ∃ z : Int32, z = x4 + 1 := ⟨_, rfl⟩
          have h := h y11 ey11
          refine lv_iinc (v := y11) (lv' := [(4, .int y11), (5, .int r9), (0, .ref (ad 15 0 0)), (1, .int x1), (2, .int x2), (3, .int x3)]) hC.1 hC.2.1 dX10_advise_139 hl (k := 5) rfl (by rw [ey11]; rfl) (by decide) rfl (fun ls hl => ?_)
          refine lv_goto (tgt := 64) hC.1 hC.2.1 dX10_advise_142 (by decide) ?_
          exact kB64 _ _ _ _ _ _ _ h hS (lv_sub hl [2, 3, 4, 5, 0] rfl)
  refine lv_aload_n hC.1 hC.2.1 dX10_advise_0 rfl (lv_at hl 0 rfl) ?_
  refine lv_iconst (v := 0) hC.1 hC.2.1 dX10_advise_1 (by decide) ?_
  obtain ⟨hk14, h⟩ := h
  refine pf_15_0 hC hS hk14 wq_1044 dX10_advise_2 (fun H locs hS => ?_)
  obtain ⟨V15, eV15⟩ : ∃ z : VS, z = vup V 15 0 0 0 0 0 := ⟨_, rfl⟩
  rw [← eV15] at hS
  have h := h V15 eV15
  refine lv_iload_n hC.1 hC.2.1 dX10_advise_5 rfl (lv_at hl 1 rfl) ?_
  refine lv_iconst (v := 1) hC.1 hC.2.1 dX10_advise_6 (by decide) ?_
  refine lv_bipush (v := 30) hC.1 hC.2.1 dX10_advise_7 (by decide) ?_
  refine g_calli0 hS (g_runS (n := 3) (rest := []) (As := [.int a1, .int 1, .int 30]) hC hS (c_X10_isIn l G ks ad a1 1 30 V15 _ h _) (gIS wq_1114 wq_1115 wq_46 wq_1116) ⟨⟨by decide +kernel, by decide +kernel, by decide +kernel⟩, rfl, rfl, Nat.le_of_ble_eq_true rfl, Nat.le_of_ble_eq_true rfl⟩ rfl hl rfl (Nat.le_of_ble_eq_true rfl) dX10_advise_9 ⟨Nat.le_of_ble_eq_true rfl, Nat.le_of_ble_eq_true rfl⟩) (fun r17 V16 H locs h hS => ?_)
  refine lv_if_ne (tgt := 21) hC.1 hC.2.1 dX10_advise_12 (by decide) (fun c28 => ?_) (fun c28 => ?_)
  · have h := h.2 c28
    refine lv_aload_n hC.1 hC.2.1 dX10_advise_21 rfl (lv_at hl 0 rfl) ?_
    refine gf_15_11 hC hS hk14 wq_1065 dX10_advise_22 ?_
    obtain ⟨hk20, h⟩ := h
    refine gn_16_5 hC hS hk20 wq_987 dX10_advise_25 ?_
    refine lv_bipush (v := 8) hC.1 hC.2.1 dX10_advise_28 (by decide) ?_
    refine lv_icmp_ne (tgt := 39) hC.1 hC.2.1 dX10_advise_30 (by decide) (fun c27 => ?_) (fun c27 => ?_)
    · have h := h.2 c27
      refine lv_aload_n hC.1 hC.2.1 dX10_advise_39 rfl (lv_at hl 0 rfl) ?_
      refine gf_15_12 hC hS hk14 wq_1066 dX10_advise_40 ?_
      refine lv_aload_n hC.1 hC.2.1 dX10_advise_43 rfl (lv_at hl 0 rfl) ?_
      refine gf_15_11 hC hS hk14 wq_1065 dX10_advise_44 ?_
      obtain ⟨hk24, h⟩ := h
      refine g_callv0 hS (g_runV (n := 1) (rest := []) (As := [.ref (ad 16 0 0)]) (C := RX9) (T := TX9) (N := 17) hC hS hk24 rfl rfl (c_X9_become l G ks ad 1 0 V16 _ h _) (gI wq_1267 wq_1268 wq_1269 wq_47 wq_1270) rfl ⟨⟨by decide +kernel, by decide +kernel, by decide +kernel⟩, rfl, rfl, Nat.le_of_ble_eq_true rfl, Nat.le_of_ble_eq_true rfl⟩ rfl hl rfl (Nat.le_of_ble_eq_true rfl) dX10_advise_47 ⟨Nat.le_of_ble_eq_true rfl, Nat.le_of_ble_eq_true rfl⟩) (fun V23 H locs h hS => ?_)
      refine lv_iconst (v := (-1)) hC.1 hC.2.1 dX10_advise_50 (by decide) ?_
      refine lv_istore_n (lv' := [(2, .int (-1)), (0, .ref (ad 15 0 0)), (1, .int a1)]) hC.1 hC.2.1 dX10_advise_51 rfl hl (by decide) rfl (fun ls hl => ?_)
      refine lv_aload_n hC.1 hC.2.1 dX10_advise_52 rfl (lv_at hl 1 rfl) ?_
      refine gf_15_12 hC hS hk14 wq_1066 dX10_advise_53 ?_
      refine lv_iload_n hC.1 hC.2.1 dX10_advise_56 rfl (lv_at hl 2 rfl) ?_
      refine g_calli0 hS (g_runS (n := 2) (rest := []) (As := [.ref (ad 16 1 0), .int a1]) hC hS (c_X10_pass l G ks ad 1 a1 V23 _ h _) (gIS wq_1223 wq_1224 wq_46 wq_1225) ⟨⟨by decide +kernel, by decide +kernel, by decide +kernel⟩, rfl, rfl, Nat.le_of_ble_eq_true rfl, Nat.le_of_ble_eq_true rfl⟩ rfl hl rfl (Nat.le_of_ble_eq_true rfl) dX10_advise_57 ⟨Nat.le_of_ble_eq_true rfl, Nat.le_of_ble_eq_true rfl⟩) (fun r26 V25 H locs h hS => ?_)
      refine lv_istore_n (lv' := [(3, .int r26), (2, .int (-1)), (0, .ref (ad 15 0 0)), (1, .int a1)]) hC.1 hC.2.1 dX10_advise_60 rfl hl (by decide) rfl (fun ls hl => ?_)
      refine lv_iconst (v := 0) hC.1 hC.2.1 dX10_advise_61 (by decide) ?_
      refine lv_istore (lv' := [(4, .int 0), (3, .int r26), (2, .int (-1)), (0, .ref (ad 15 0 0)), (1, .int a1)]) hC.1 hC.2.1 dX10_advise_62 hl (by decide) rfl (fun ls hl => ?_)
      exact kT64 _ _ _ _ _ _ _ _ h hS (lv_sub hl [3, 4, 2, 1, 0] rfl)
    · have h := h.1 c27
      refine lv_aload_n hC.1 hC.2.1 dX10_advise_33 rfl (lv_at hl 0 rfl) ?_
      refine lv_iconst (v := 2) hC.1 hC.2.1 dX10_advise_34 (by decide) ?_
      refine g_calli0 hS (g_runV (n := 1) (rest := []) (As := [.int 2]) (C := RX10) (T := TX10) (N := 13) hC hS hk14 rfl rfl (c_X10_no l G ks ad 2 V16 _ h _) (gI wq_1102 wq_1104 wq_23 wq_46 wq_1105) rfl ⟨⟨by decide +kernel, by decide +kernel, by decide +kernel⟩, rfl, rfl, Nat.le_of_ble_eq_true rfl, Nat.le_of_ble_eq_true rfl⟩ rfl hl rfl (Nat.le_of_ble_eq_true rfl) dX10_advise_35 ⟨Nat.le_of_ble_eq_true rfl, Nat.le_of_ble_eq_true rfl⟩) (fun r22 V21 H locs h hS => ?_)
      exact g_iret hC hr hlk hS h dX10_advise_38
  · have h := h.1 c28
    refine lv_aload_n hC.1 hC.2.1 dX10_advise_15 rfl (lv_at hl 0 rfl) ?_
    refine lv_iconst (v := 1) hC.1 hC.2.1 dX10_advise_16 (by decide) ?_
    refine g_calli0 hS (g_runV (n := 1) (rest := []) (As := [.int 1]) (C := RX10) (T := TX10) (N := 13) hC hS hk14 rfl rfl (c_X10_no l G ks ad 1 V16 _ h _) (gI wq_1102 wq_1104 wq_23 wq_46 wq_1105) rfl ⟨⟨by decide +kernel, by decide +kernel, by decide +kernel⟩, rfl, rfl, Nat.le_of_ble_eq_true rfl, Nat.le_of_ble_eq_true rfl⟩ rfl hl rfl (Nat.le_of_ble_eq_true rfl) dX10_advise_17 ⟨Nat.le_of_ble_eq_true rfl, Nat.le_of_ble_eq_true rfl⟩) (fun r19 V18 H locs h hS => ?_)
    exact g_iret hC hr hlk hS h dX10_advise_20
