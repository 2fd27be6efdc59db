def wb_X8_needKind_9 (ks : List KY) (a0 : Int32) (a1 : Int32) (post : VS → Prop) (xp : Nat → VS → Prop) (V : VS) : Prop := (xp 1 V)
def wp_X8_needKind (ks : List KY) (a0 : Int32) (a1 : Int32) (V : VS) (post : VS → Prop) (xp : Nat → VS → Prop) : Prop := ((a0 < 0 → wb_X8_needKind_9 ks a0 a1 post xp V) ∧ (¬ (a0 < 0) → ((a0 < a1 → (post V)) ∧ (¬ (a0 < a1) → wb_X8_needKind_9 ks a0 a1 post xp V))))
set_option maxHeartbeats 4000000 in
set_option maxRecDepth 100000 in
theorem c_X8_needKind (l : Launch) (hlf : l.stackTraces = false) (G : GG) (ks : List KY) (ad : AD) (a0 : Int32) (a1 : Int32) (V : VS) (post : VS → Prop) (xp : Nat → VS → Prop) (h : wp_X8_needKind ks a0 a1 V post xp) (sz : Nat) : vx_Met l yX8_needKind (ws_ yX8_needKind cX8_needKind 2 none) ({ frames := 6, cells := 1, slots := 6, locals := 82 }) (mPc [.int a0, .int a1] G ks ad V sz) (mQv post G ks ad sz) (mX xp G ks ad sz) 1 6 (mA ks ad sz) := by
  refine g_xmet (own := RX8) (by decide) rfl (Nat.le_of_ble_eq_true rfl) ?_
  intro p e s m args below meth c ls hC hsz hr hlk hin hS ha hl htab
  have hl : lv_has ls 2 [(0, .int a0), (1, .int a1)] := hl
  unfold wp_X8_needKind at h
  have kT9 : ∀ (V : VS) (H : Heap) (locs : List Loc) (ls : Array Slot), wb_X8_needKind_9 ks a0 a1 post xp V → ST G ks ad V (mA ks ad sz) s.heap H locs → lv_has ls 2 [] → W p l e ({ frames := 6, cells := 1, slots := 6, locals := 82 } : Room) s m args below meth c H locs 0 0 (vx_MQ below (mQv post G ks ad sz) (mX xp G ks ad sz) args s 1 6 (mA ks ad sz)) (F0 m 9 ls []) := by
    intro V H locs ls h hS hl
    unfold wb_X8_needKind_9 at h
    exact g_throw (n := 1) hlf hC hS hl htab hlk (by decide +kernel) hat_1 hbt_1 hgd_1 wq_500 wq_57 sr_227 dX8_needKind_9 dX8_needKind_12 dX8_needKind_13 dX8_needKind_15 dX8_needKind_18 ⟨Nat.le_of_ble_eq_true rfl, Nat.le_of_ble_eq_true rfl, Nat.le_of_ble_eq_true rfl, Nat.le_of_ble_eq_true rfl⟩ ⟨Nat.le_of_ble_eq_true rfl, Nat.le_of_ble_eq_true rfl⟩ h
  refine lv_iload_n hC.1 hC.2.1 dX8_needKind_0 rfl (lv_at hl 0 rfl) ?_
  refine lv_if_lt (tgt := 9) hC.1 hC.2.1 dX8_needKind_1 (by decide) (fun c2 => ?_) (fun c2 => ?_)
  · have h := h.1 c2
    exact kT9 _ _ _ _ h hS (lv_sub hl [] rfl)
  · have h := h.2 c2
    refine lv_iload_n hC.1 hC.2.1 dX8_needKind_4 rfl (lv_at hl 0 rfl) ?_
    refine lv_iload_n hC.1 hC.2.1 dX8_needKind_5 rfl (lv_at hl 1 rfl) ?_
    refine lv_icmp_lt (tgt := 19) hC.1 hC.2.1 dX8_needKind_6 (by decide) (fun c1 => ?_) (fun c1 => ?_)
    · have h := h.1 c1
      refine W.widen (k := 1) (n := 6) (Nat.le_of_ble_eq_true rfl) (Nat.le_of_ble_eq_true rfl) ?_
      exact vx_ret (g_vret hC hr hlk hS h dX8_needKind_19)
    · have h := h.2 c1
      exact kT9 _ _ _ _ h hS (lv_sub hl [] rfl)
def wp_X8_needDays (ks : List KY) (a0 : Int32) (a1 : Int32) (V : VS) (post : VS → Prop) (xp : Nat → VS → Prop) : Prop := (wp_X8_isWithin ks a0 1 a1 V (fun r2 V1 => ((r2 = 0 → (xp 2 V1)) ∧ (¬ (r2 = 0) → (post V1)))))
set_option maxHeartbeats 4000000 in
set_option maxRecDepth 100000 in
theorem c_X8_needDays (l : Launch) (hlf : l.stackTraces = false) (G : GG) (ks : List KY) (ad : AD) (a0 : Int32) (a1 : Int32) (V : VS) (post : VS → Prop) (xp : Nat → VS → Prop) (h : wp_X8_needDays ks a0 a1 V post xp) (sz : Nat) : vx_Met l yX8_needDays (ws_ yX8_needDays cX8_needDays 2 none) ({ frames := 6, cells := 1, slots := 6, locals := 82 }) (mPc [.int a0, .int a1] G ks ad V sz) (mQv post G ks ad sz) (mX xp G ks ad sz) 1 6 (mA ks ad sz) := by
  refine g_xmet (own := RX8) (by decide) rfl (Nat.le_of_ble_eq_true rfl) ?_
  intro p e s m args below meth c ls hC hsz hr hlk hin hS ha hl htab
  have hl : lv_has ls 2 [(0, .int a0), (1, .int a1)] := hl
  unfold wp_X8_needDays at h
  refine lv_iload_n hC.1 hC.2.1 dX8_needDays_0 rfl (lv_at hl 0 rfl) ?_
  refine lv_iconst (v := 1) hC.1 hC.2.1 dX8_needDays_1 (by decide) ?_
  refine lv_iload_n hC.1 hC.2.1 dX8_needDays_2 rfl (lv_at hl 1 rfl) ?_
  refine g_calli0 hS (g_runS (n := 3) (rest := []) (As := [.int a0, .int 1, .int a1]) hC hS (c_X8_isWithin l G ks ad a0 1 a1 V _ h _) (gIS wq_532 wq_533 wq_39 wq_534) ⟨⟨by decide +kernel, by decide +kernel, by decide +kernel⟩, rfl, rfl, Nat.le_of_ble_eq_true rfl, Nat.le_of_ble_eq_true rfl⟩ rfl hl rfl (Nat.le_of_ble_eq_true rfl) dX8_needDays_3 ⟨Nat.le_of_ble_eq_true rfl, Nat.le_of_ble_eq_true rfl⟩) (fun r2 V1 H locs h hS => ?_)
  refine lv_if_ne (tgt := 19) hC.1 hC.2.1 dX8_needDays_6 (by decide) (fun c3 => ?_) (fun c3 => ?_)
  · have h := h.2 c3
    refine W.widen (k := 1) (n := 6) (Nat.le_of_ble_eq_true rfl) (Nat.le_of_ble_eq_true rfl) ?_
    exact vx_ret (g_vret hC hr hlk hS h dX8_needDays_19)
  · have h := h.1 c3
    exact g_throw (n := 2) hlf hC hS hl htab hlk (by decide +kernel) hat_2 hbt_2 hgd_2 wq_516 wq_58 sr_230 dX8_needDays_9 dX8_needDays_12 dX8_needDays_13 dX8_needDays_15 dX8_needDays_18 ⟨Nat.le_of_ble_eq_true rfl, Nat.le_of_ble_eq_true rfl, Nat.le_of_ble_eq_true rfl, Nat.le_of_ble_eq_true rfl⟩ ⟨Nat.le_of_ble_eq_true rfl, Nat.le_of_ble_eq_true rfl⟩ h
def wp_X8_needHalt (ks : List KY) (a1 : Int32) (V : VS) (post : VS → Prop) (xp : Nat → VS → Prop) : Prop := ((0, 0, 0) ∈ ks ∧ (1, 0, 0) ∈ ks ∧ (2, 0, 0) ∈ ks ∧ wp_X8_needKind ks a1 (V 2 0 0 2 0) V (fun V4 => (post V4)) xp)
set_option maxHeartbeats 4000000 in
set_option maxRecDepth 100000 in
theorem c_X8_needHalt (l : Launch) (hlf : l.stackTraces = false) (G : GG) (ks : List KY) (ad : AD) (a1 : Int32) (V : VS) (post : VS → Prop) (xp : Nat → VS → Prop) (h : wp_X8_needHalt ks a1 V post xp) (sz : Nat) : vx_Met l yX8_needHalt (ws_ yX8_needHalt cX8_needHalt 2 none) ({ frames := 7, cells := 1, slots := 6, locals := 103 }) (mPc [.ref (ad 0 0 0), .int a1] G ks ad V sz) (mQv post G ks ad sz) (mX xp G ks ad sz) 1 6 (mA ks ad sz) := by
  refine g_xmet (own := RX8) (by decide) rfl (Nat.le_of_ble_eq_true rfl) ?_
  intro p e s m args below meth c ls hC hsz hr hlk hin hS ha hl htab
  have hl : lv_has ls 2 [(0, .ref (ad 0 0 0)), (1, .int a1)] := hl
  unfold wp_X8_needHalt at h
  refine lv_iload_n hC.1 hC.2.1 dX8_needHalt_0 rfl (lv_at hl 1 rfl) ?_
  refine lv_aload_n hC.1 hC.2.1 dX8_needHalt_1 rfl (lv_at hl 0 rfl) ?_
  obtain ⟨hk1, h⟩ := h
  refine gf_0_0 hC hS hk1 wq_168 dX8_needHalt_2 ?_
  obtain ⟨hk2, h⟩ := h
  refine gn_1_0 hC hS hk2 wq_135 dX8_needHalt_5 ?_
  obtain ⟨hk3, h⟩ := h
  refine g_lsize hC hS hk3 wq_338 hl ⟨Nat.le_of_ble_eq_true rfl, Nat.le_of_ble_eq_true rfl, Nat.zero_le _⟩ (Nat.le_of_ble_eq_true rfl) dX8_needHalt_8 ⟨Nat.le_of_ble_eq_true rfl, Nat.le_of_ble_eq_true rfl⟩ (fun H locs hS => ?_)
  refine g_xcallv hS htab hlk ⟨Nat.le_of_ble_eq_true rfl, Nat.le_of_ble_eq_true rfl⟩ (g_xrunS (n := 2) (rest := []) (As := [.int a1, .int (V 2 0 0 2 0)]) hC hS (c_X8_needKind l hlf G ks ad a1 (V 2 0 0 2 0) V _ _ h _) (gIS wq_497 wq_498 wq_39 wq_499) ⟨⟨by decide +kernel, by decide +kernel, by decide +kernel⟩, rfl, rfl, Nat.le_of_ble_eq_true rfl, Nat.le_of_ble_eq_true rfl⟩ rfl hl rfl (Nat.le_of_ble_eq_true rfl) dX8_needHalt_11 ⟨Nat.le_of_ble_eq_true rfl, Nat.le_of_ble_eq_true rfl⟩) (fun V4 H locs h hS => ?_)
  refine W.widen (k := 1) (n := 6) (Nat.le_of_ble_eq_true rfl) (Nat.le_of_ble_eq_true rfl) ?_
  exact vx_ret (g_vret hC hr hlk hS h dX8_needHalt_14)
def wp_X8_needBook (ks : List KY) (a1 : Int32) (V : VS) (post : VS → Prop) (xp : Nat → VS → Prop) : Prop := ((0, 0, 0) ∈ ks ∧ (1, 0, 0) ∈ ks ∧ (2, 0, 2) ∈ ks ∧ wp_X8_needKind ks a1 (V 2 0 2 2 0) V (fun V4 => (post V4)) xp)
set_option maxHeartbeats 4000000 in
set_option maxRecDepth 100000 in
theorem c_X8_needBook (l : Launch) (hlf : l.stackTraces = false) (G : GG) (ks : List KY) (ad : AD) (a1 : Int32) (V : VS) (post : VS → Prop) (xp : Nat → VS → Prop) (h : wp_X8_needBook ks a1 V post xp) (sz : Nat) : vx_Met l yX8_needBook (ws_ yX8_needBook cX8_needBook 2 none) ({ frames := 7, cells := 1, slots := 6, locals := 103 }) (mPc [.ref (ad 0 0 0), .int a1] G ks ad V sz) (mQv post G ks ad sz) (mX xp G ks ad sz) 1 6 (mA ks ad sz) := by
  refine g_xmet (own := RX8) (by decide) rfl (Nat.le_of_ble_eq_true rfl) ?_
  intro p e s m args below meth c ls hC hsz hr hlk hin hS ha hl htab
  have hl : lv_has ls 2 [(0, .ref (ad 0 0 0)), (1, .int a1)] := hl
  unfold wp_X8_needBook at h
  refine lv_iload_n hC.1 hC.2.1 dX8_needBook_0 rfl (lv_at hl 1 rfl) ?_
  refine lv_aload_n hC.1 hC.2.1 dX8_needBook_1 rfl (lv_at hl 0 rfl) ?_
  obtain ⟨hk1, h⟩ := h
  refine gf_0_0 hC hS hk1 wq_168 dX8_needBook_2 ?_
  obtain ⟨hk2, h⟩ := h
  refine gn_1_2 hC hS hk2 wq_139 dX8_needBook_5 ?_
  obtain ⟨hk3, h⟩ := h
  refine g_lsize hC hS hk3 wq_338 hl ⟨Nat.le_of_ble_eq_true rfl, Nat.le_of_ble_eq_true rfl, Nat.zero_le _⟩ (Nat.le_of_ble_eq_true rfl) dX8_needBook_8 ⟨Nat.le_of_ble_eq_true rfl, Nat.le_of_ble_eq_true rfl⟩ (fun H locs hS => ?_)
  refine g_xcallv hS htab hlk ⟨Nat.le_of_ble_eq_true rfl, Nat.le_of_ble_eq_true rfl⟩ (g_xrunS (n := 2) (rest := []) (As := [.int a1, .int (V 2 0 2 2 0)]) hC hS (c_X8_needKind l hlf G ks ad a1 (V 2 0 2 2 0) V _ _ h _) (gIS wq_497 wq_498 wq_39 wq_499) ⟨⟨by decide +kernel, by decide +kernel, by decide +kernel⟩, rfl, rfl, Nat.le_of_ble_eq_true rfl, Nat.le_of_ble_eq_true rfl⟩ rfl hl rfl (Nat.le_of_ble_eq_true rfl) dX8_needBook_11 ⟨Nat.le_of_ble_eq_true rfl, Nat.le_of_ble_eq_true rfl⟩) (fun V4 H locs h hS => ?_)
  refine W.widen (k := 1) (n := 6) (Nat.le_of_ble_eq_true rfl) (Nat.le_of_ble_eq_true rfl) ?_
  exact vx_ret (g_vret hC hr hlk hS h dX8_needBook_14)
def wp_X8_needReader (ks : List KY) (a1 : Int32) (V : VS) (post : VS → Prop) (xp : Nat → VS → Prop) : Prop := ((0, 0, 0) ∈ ks ∧ (1, 0, 0) ∈ ks ∧ (2, 0, 3) ∈ ks ∧ wp_X8_needKind ks a1 (V 2 0 3 2 0) V (fun V4 => (post V4)) xp)
set_option maxHeartbeats 4000000 in
set_option maxRecDepth 100000 in
theorem c_X8_needReader (l : Launch) (hlf : l.stackTraces = false) (G : GG) (ks : List KY) (ad : AD) (a1 : Int32) (V : VS) (post : VS → Prop) (xp : Nat → VS → Prop) (h : wp_X8_needReader ks a1 V post xp) (sz : Nat) : vx_Met l yX8_needReader (ws_ yX8_needReader cX8_needReader 2 none) ({ frames := 7, cells := 1, slots := 6, locals := 103 }) (mPc [.ref (ad 0 0 0), .int a1] G ks ad V sz) (mQv post G ks ad sz) (mX xp G ks ad sz) 1 6 (mA ks ad sz) := by
  refine g_xmet (own := RX8) (by decide) rfl (Nat.le_of_ble_eq_true rfl) ?_
  intro p e s m args below meth c ls hC hsz hr hlk hin hS ha hl htab
  have hl : lv_has ls 2 [(0, .ref (ad 0 0 0)), (1, .int a1)] := hl
  unfold wp_X8_needReader at h
  refine lv_iload_n hC.1 hC.2.1 dX8_needReader_0 rfl (lv_at hl 1 rfl) ?_
  refine lv_aload_n hC.1 hC.2.1 dX8_needReader_1 rfl (lv_at hl 0 rfl) ?_
  obtain ⟨hk1, h⟩ := h
  refine gf_0_0 hC hS hk1 wq_168 dX8_needReader_2 ?_
  obtain ⟨hk2, h⟩ := h
  refine gn_1_3 hC hS hk2 wq_141 dX8_needReader_5 ?_
  obtain ⟨hk3, h⟩ := h
  refine g_lsize hC hS hk3 wq_338 hl ⟨Nat.le_of_ble_eq_true rfl, Nat.le_of_ble_eq_true rfl, Nat.zero_le _⟩ (Nat.le_of_ble_eq_true rfl) dX8_needReader_8 ⟨Nat.le_of_ble_eq_true rfl, Nat.le_of_ble_eq_true rfl⟩ (fun H locs hS => ?_)
  refine g_xcallv hS htab hlk ⟨Nat.le_of_ble_eq_true rfl, Nat.le_of_ble_eq_true rfl⟩ (g_xrunS (n := 2) (rest := []) (As := [.int a1, .int (V 2 0 3 2 0)]) hC hS (c_X8_needKind l hlf G ks ad a1 (V 2 0 3 2 0) V _ _ h _) (gIS wq_497 wq_498 wq_39 wq_499) ⟨⟨by decide +kernel, by decide +kernel, by decide +kernel⟩, rfl, rfl, Nat.le_of_ble_eq_true rfl, Nat.le_of_ble_eq_true rfl⟩ rfl hl rfl (Nat.le_of_ble_eq_true rfl) dX8_needReader_11 ⟨Nat.le_of_ble_eq_true rfl, Nat.le_of_ble_eq_true rfl⟩) (fun V4 H locs h hS => ?_)
  refine W.widen (k := 1) (n := 6) (Nat.le_of_ble_eq_true rfl) (Nat.le_of_ble_eq_true rfl) ?_
  exact vx_ret (g_vret hC hr hlk hS h dX8_needReader_14)
def wp_X8_setRain (ks : List KY) (a1 : Int32) (a2 : Int32) (V : VS) (post : Int32 → VS → Prop) (xp : Nat → VS → Prop) : Prop := (wp_X8_needKind ks a1 7 V (fun V1 => (wp_X8_isWithin ks a2 0 9 V1 (fun r3 V2 => ((r3 = 0 → (xp 2 V2)) ∧ (¬ (r3 = 0) → ((0, 0, 0) ∈ ks ∧ (1, 0, 0) ∈ ks ∧ wp_X7_changeRain ks 0 a1 a2 V2 (fun r7 V5 => (post r7 V5)))))))) xp)
set_option maxHeartbeats 4000000 in
set_option maxRecDepth 100000 in
theorem c_X8_setRain (l : Launch) (hlf : l.stackTraces = false) (G : GG) (ks : List KY) (ad : AD) (a1 : Int32) (a2 : Int32) (V : VS) (post : Int32 → VS → Prop) (xp : Nat → VS → Prop) (h : wp_X8_setRain ks a1 a2 V post xp) (sz : Nat) : vx_Met l yX8_setRain (ws_ yX8_setRain cX8_setRain 3 (some .int)) ({ frames := 7, cells := 2, slots := 12, locals := 103 }) (mPc [.ref (ad 0 0 0), .int a1, .int a2] G ks ad V sz) (mQi post G ks ad sz) (mX xp G ks ad sz) 2 12 (mA ks ad sz) := by
  refine g_xmet (own := RX8) (by decide) rfl (Nat.le_of_ble_eq_true rfl) ?_
  intro p e s m args below meth c ls hC hsz hr hlk hin hS ha hl htab
  have hl : lv_has ls 3 [(0, .ref (ad 0 0 0)), (1, .int a1), (2, .int a2)] := hl
  unfold wp_X8_setRain at h
  refine lv_iload_n hC.1 hC.2.1 dX8_setRain_0 rfl (lv_at hl 1 rfl) ?_
  refine lv_bipush (v := 7) hC.1 hC.2.1 dX8_setRain_1 (by decide) ?_
  refine g_xcallv hS htab hlk ⟨Nat.le_of_ble_eq_true rfl, Nat.le_of_ble_eq_true rfl⟩ (g_xrunS (n := 2) (rest := []) (As := [.int a1, .int 7]) hC hS (c_X8_needKind l hlf G ks ad a1 7 V _ _ h _) (gIS wq_497 wq_498 wq_39 wq_499) ⟨⟨by decide +kernel, by decide +kernel, by decide +kernel⟩, rfl, rfl, Nat.le_of_ble_eq_true rfl, Nat.le_of_ble_eq_true rfl⟩ rfl hl rfl (Nat.le_of_ble_eq_true rfl) dX8_setRain_3 ⟨Nat.le_of_ble_eq_true rfl, Nat.le_of_ble_eq_true rfl⟩) (fun V1 H locs h hS => ?_)
  refine W.widen (k := 1) (n := 6) (Nat.le_of_ble_eq_true rfl) (Nat.le_of_ble_eq_true rfl) ?_
  refine lv_iload_n hC.1 hC.2.1 dX8_setRain_6 rfl (lv_at hl 2 rfl) ?_
  refine lv_iconst (v := 0) hC.1 hC.2.1 dX8_setRain_7 (by decide) ?_
  refine lv_bipush (v := 9) hC.1 hC.2.1 dX8_setRain_8 (by decide) ?_
  refine g_calli0 hS (g_runS (n := 3) (rest := []) (As := [.int a2, .int 0, .int 9]) hC hS (c_X8_isWithin l G ks ad a2 0 9 V1 _ h _) (gIS wq_532 wq_533 wq_39 wq_534) ⟨⟨by decide +kernel, by decide +kernel, by decide +kernel⟩, rfl, rfl, Nat.le_of_ble_eq_true rfl, Nat.le_of_ble_eq_true rfl⟩ rfl hl rfl (Nat.le_of_ble_eq_true rfl) dX8_setRain_10 ⟨Nat.le_of_ble_eq_true rfl, Nat.le_of_ble_eq_true rfl⟩) (fun r3 V2 H locs h hS => ?_)
  refine lv_if_ne (tgt := 26) hC.1 hC.2.1 dX8_setRain_13 (by decide) (fun c8 => ?_) (fun c8 => ?_)
  · have h := h.2 c8
    refine lv_aload_n hC.1 hC.2.1 dX8_setRain_26 rfl (lv_at hl 0 rfl) ?_
    obtain ⟨hk4, h⟩ := h
    refine gf_0_0 hC hS hk4 wq_168 dX8_setRain_27 ?_
    refine lv_iload_n hC.1 hC.2.1 dX8_setRain_30 rfl (lv_at hl 1 rfl) ?_
    refine lv_iload_n hC.1 hC.2.1 dX8_setRain_31 rfl (lv_at hl 2 rfl) ?_
    obtain ⟨hk6, h⟩ := h
    refine g_calli0 hS (g_runV (n := 2) (rest := []) (As := [.int a1, .int a2]) (C := RX7) (T := TX7) (N := 9) hC hS hk6 rfl rfl (c_X7_changeRain l G ks ad 0 a1 a2 V2 _ h _) (gI wq_575 wq_576 wq_577 wq_40 wq_578) rfl ⟨⟨by decide +kernel, by decide +kernel, by decide +kernel⟩, rfl, rfl, Nat.le_of_ble_eq_true rfl, Nat.le_of_ble_eq_true rfl⟩ rfl hl rfl (Nat.le_of_ble_eq_true rfl) dX8_setRain_32 ⟨Nat.le_of_ble_eq_true rfl, Nat.le_of_ble_eq_true rfl⟩) (fun r7 V5 H locs h hS => ?_)
    refine W.widen (k := 2) (n := 12) (Nat.le_of_ble_eq_true rfl) (Nat.le_of_ble_eq_true rfl) ?_
    exact vx_ret (g_iret hC hr hlk hS h dX8_setRain_35)
  · have h := h.1 c8
    exact g_throw (n := 2) hlf hC hS hl htab hlk (by decide +kernel) hat_2 hbt_2 hgd_2 wq_516 wq_58 sr_74 dX8_setRain_16 dX8_setRain_19 dX8_setRain_20 dX8_setRain_22 dX8_setRain_25 ⟨Nat.le_of_ble_eq_true rfl, Nat.le_of_ble_eq_true rfl, Nat.le_of_ble_eq_true rfl, Nat.le_of_ble_eq_true rfl⟩ ⟨Nat.le_of_ble_eq_true rfl, Nat.le_of_ble_eq_true rfl⟩ h
def wp_X8_setRound (ks : List KY) (a1 : Int32) (a2 : Int32) (V : VS) (post : Int32 → VS → Prop) (xp : Nat → VS → Prop) : Prop := (wp_X8_isWithin ks a1 0 99999999 V (fun r2 V1 => ((r2 = 0 → (xp 2 V1)) ∧ (¬ (r2 = 0) → ((0, 0, 0) ∈ ks ∧ (1, 0, 0) ∈ ks ∧ (2, 0, 0) ∈ ks ∧ wp_X8_standsForHalts ks a1 (V1 2 0 0 2 0) V1 (fun r7 V6 => ((r7 = 0 → (xp 2 V6)) ∧ (¬ (r7 = 0) → (wp_X8_isWithin ks a2 10 300 V6 (fun r9 V8 => ((r9 = 0 → (xp 2 V8)) ∧ (¬ (r9 = 0) → ((12, 0, 0) ∈ ks ∧ wp_X5_tellAnew ks 0 a1 a2 V8 (fun V10 => (wp_X5_size ks 0 V10 (fun r13 V12 => (post r13 V12)))))))))))))))))
set_option maxHeartbeats 4000000 in
set_option maxRecDepth 100000 in
theorem c_X8_setRound (l : Launch) (hlf : l.stackTraces = false) (G : GG) (ks : List KY) (ad : AD) (a1 : Int32) (a2 : Int32) (V : VS) (post : Int32 → VS → Prop) (xp : Nat → VS → Prop) (h : wp_X8_setRound ks a1 a2 V post xp) (sz : Nat) : vx_Met l yX8_setRound (ws_ yX8_setRound cX8_setRound 3 (some .int)) ({ frames := 6, cells := 1, slots := 6, locals := 82 }) (mPc [.ref (ad 0 0 0), .int a1, .int a2] G ks ad V sz) (mQi post G ks ad sz) (mX xp G ks ad sz) 1 6 (mA ks ad sz) := by
  refine g_xmet (own := RX8) (by decide) rfl (Nat.le_of_ble_eq_true rfl) ?_
  intro p e s m args below meth c ls hC hsz hr hlk hin hS ha hl htab
  have hl : lv_has ls 3 [(0, .ref (ad 0 0 0)), (1, .int a1), (2, .int a2)] := hl
  unfold wp_X8_setRound at h
  refine lv_iload_n hC.1 hC.2.1 dX8_setRound_0 rfl (lv_at hl 1 rfl) ?_
  refine lv_iconst (v := 0) hC.1 hC.2.1 dX8_setRound_1 (by decide) ?_
  refine lv_ldc hC.1 hC.2.1 hC.2.2.2.1 (hC.2.2.2.2.1 _ wq_586) dX8_setRound_2 ?_
  refine g_calli0 hS (g_runS (n := 3) (rest := []) (As := [.int a1, .int 0, .int 99999999]) hC hS (c_X8_isWithin l G ks ad a1 0 99999999 V _ h _) (gIS wq_532 wq_533 wq_39 wq_534) ⟨⟨by decide +kernel, by decide +kernel, by decide +kernel⟩, rfl, rfl, Nat.le_of_ble_eq_true rfl, Nat.le_of_ble_eq_true rfl⟩ rfl hl rfl (Nat.le_of_ble_eq_true rfl) dX8_setRound_4 ⟨Nat.le_of_ble_eq_true rfl, Nat.le_of_ble_eq_true rfl⟩) (fun r2 V1 H locs h hS => ?_)
  refine lv_if_ne (tgt := 20) hC.1 hC.2.1 dX8_setRound_7 (by decide) (fun c16 => ?_) (fun c16 => ?_)
  · have h := h.2 c16
    refine lv_iload_n hC.1 hC.2.1 dX8_setRound_20 rfl (lv_at hl 1 rfl) ?_
    refine lv_aload_n hC.1 hC.2.1 dX8_setRound_21 rfl (lv_at hl 0 rfl) ?_
    obtain ⟨hk3, h⟩ := h
    refine gf_0_0 hC hS hk3 wq_168 dX8_setRound_22 ?_
    obtain ⟨hk4, h⟩ := h
    refine gn_1_0 hC hS hk4 wq_135 dX8_setRound_25 ?_
    obtain ⟨hk5, h⟩ := h
    refine g_lsize hC hS hk5 wq_338 hl ⟨Nat.le_of_ble_eq_true rfl, Nat.le_of_ble_eq_true rfl, Nat.zero_le _⟩ (Nat.le_of_ble_eq_true rfl) dX8_setRound_28 ⟨Nat.le_of_ble_eq_true rfl, Nat.le_of_ble_eq_true rfl⟩ (fun H locs hS => ?_)
    refine g_calli0 hS (g_runS (n := 2) (rest := []) (As := [.int a1, .int (V1 2 0 0 2 0)]) hC hS (c_X8_standsForHalts l G ks ad a1 (V1 2 0 0 2 0) V1 _ h _) (gIS wq_588 wq_589 wq_39 wq_590) ⟨⟨by decide +kernel, by decide +kernel, by decide +kernel⟩, rfl, rfl, Nat.le_of_ble_eq_true rfl, Nat.le_of_ble_eq_true rfl⟩ rfl hl rfl (Nat.le_of_ble_eq_true rfl) dX8_setRound_31 ⟨Nat.le_of_ble_eq_true rfl, Nat.le_of_ble_eq_true rfl⟩) (fun r7 V6 H locs h hS => ?_)
    refine lv_if_ne (tgt := 47) hC.1 hC.2.1 dX8_setRound_34 (by decide) (fun c15 => ?_) (fun c15 => ?_)
    · have h := h.2 c15
      refine lv_iload_n hC.1 hC.2.1 dX8_setRound_47 rfl (lv_at hl 2 rfl) ?_
      refine lv_bipush (v := 10) hC.1 hC.2.1 dX8_setRound_48 (by decide) ?_
      refine lv_sipush (v := 300) hC.1 hC.2.1 dX8_setRound_50 (by decide) ?_
      refine g_calli0 hS (g_runS (n := 3) (rest := []) (As := [.int a2, .int 10, .int 300]) hC hS (c_X8_isWithin l G ks ad a2 10 300 V6 _ h _) (gIS wq_532 wq_533 wq_39 wq_534) ⟨⟨by decide +kernel, by decide +kernel, by decide +kernel⟩, rfl, rfl, Nat.le_of_ble_eq_true rfl, Nat.le_of_ble_eq_true rfl⟩ rfl hl rfl (Nat.le_of_ble_eq_true rfl) dX8_setRound_53 ⟨Nat.le_of_ble_eq_true rfl, Nat.le_of_ble_eq_true rfl⟩) (fun r9 V8 H locs h hS => ?_)
      refine lv_if_ne (tgt := 69) hC.1 hC.2.1 dX8_setRound_56 (by decide) (fun c14 => ?_) (fun c14 => ?_)
      · have h := h.2 c14
        refine lv_aload_n hC.1 hC.2.1 dX8_setRound_69 rfl (lv_at hl 0 rfl) ?_
        refine gf_0_0 hC hS hk3 wq_168 dX8_setRound_70 ?_
        refine gn_1_5 hC hS hk4 wq_144 dX8_setRound_73 ?_
        refine lv_iload_n hC.1 hC.2.1 dX8_setRound_76 rfl (lv_at hl 1 rfl) ?_
        refine lv_iload_n hC.1 hC.2.1 dX8_setRound_77 rfl (lv_at hl 2 rfl) ?_
        obtain ⟨hk11, h⟩ := h
        refine g_callv0 hS (g_runV (n := 2) (rest := []) (As := [.int a1, .int a2]) (C := RX5) (T := TX5) (N := 3) hC hS hk11 rfl rfl (c_X5_tellAnew l G ks ad 0 a1 a2 V8 _ h _) (gI wq_593 wq_594 wq_595 wq_45 wq_596) rfl ⟨⟨by decide +kernel, by decide +kernel, by decide +kernel⟩, rfl, rfl, Nat.le_of_ble_eq_true rfl, Nat.le_of_ble_eq_true rfl⟩ rfl hl rfl (Nat.le_of_ble_eq_true rfl) dX8_setRound_78 ⟨Nat.le_of_ble_eq_true rfl, Nat.le_of_ble_eq_true rfl⟩) (fun V10 H locs h hS => ?_)
        refine lv_aload_n hC.1 hC.2.1 dX8_setRound_81 rfl (lv_at hl 0 rfl) ?_
        refine gf_0_0 hC hS hk3 wq_168 dX8_setRound_82 ?_
        refine gn_1_5 hC hS hk4 wq_144 dX8_setRound_85 ?_
        refine g_calli0 hS (g_runV (n := 0) (rest := []) (As := []) (C := RX5) (T := TX5) (N := 3) hC hS hk11 rfl rfl (c_X5_size l G ks ad 0 V10 _ h _) (gI wq_602 wq_247 wq_248 wq_45 wq_249) rfl ⟨⟨by decide +kernel, by decide +kernel, by decide +kernel⟩, rfl, rfl, Nat.le_of_ble_eq_true rfl, Nat.le_of_ble_eq_true rfl⟩ rfl hl rfl (Nat.le_of_ble_eq_true rfl) dX8_setRound_88 ⟨Nat.le_of_ble_eq_true rfl, Nat.le_of_ble_eq_true rfl⟩) (fun r13 V12 H locs h hS => ?_)
        refine W.widen (k := 1) (n := 6) (Nat.le_of_ble_eq_true rfl) (Nat.le_of_ble_eq_true rfl) ?_
        exact vx_ret (g_iret hC hr hlk hS h dX8_setRound_91)
      · have h := h.1 c14
        exact g_throw (n := 2) hlf hC hS hl htab hlk (by decide +kernel) hat_2 hbt_2 hgd_2 wq_516 wq_58 sr_89 dX8_setRound_59 dX8_setRound_62 dX8_setRound_63 dX8_setRound_65 dX8_setRound_68 ⟨Nat.le_of_ble_eq_true rfl, Nat.le_of_ble_eq_true rfl, Nat.le_of_ble_eq_true rfl, Nat.le_of_ble_eq_true rfl⟩ ⟨Nat.le_of_ble_eq_true rfl, Nat.le_of_ble_eq_true rfl⟩ h
    · have h := h.1 c15
      exact g_throw (n := 2) hlf hC hS hl htab hlk (by decide +kernel) hat_2 hbt_2 hgd_2 wq_516 wq_58 sr_87 dX8_setRound_37 dX8_setRound_40 dX8_setRound_41 dX8_setRound_43 dX8_setRound_46 ⟨Nat.le_of_ble_eq_true rfl, Nat.le_of_ble_eq_true rfl, Nat.le_of_ble_eq_true rfl, Nat.le_of_ble_eq_true rfl⟩ ⟨Nat.le_of_ble_eq_true rfl, Nat.le_of_ble_eq_true rfl⟩ h
  · have h := h.1 c16
    exact g_throw (n := 2) hlf hC hS hl htab hlk (by decide +kernel) hat_2 hbt_2 hgd_2 wq_516 wq_58 sr_81 dX8_setRound_10 dX8_setRound_13 dX8_setRound_14 dX8_setRound_16 dX8_setRound_19 ⟨Nat.le_of_ble_eq_true rfl, Nat.le_of_ble_eq_true rfl, Nat.le_of_ble_eq_true rfl, Nat.le_of_ble_eq_true rfl⟩ ⟨Nat.le_of_ble_eq_true rfl, Nat.le_of_ble_eq_true rfl⟩ h
def wp_X8_halt (ks : List KY) (a1 : Int32) (a2 : Int32) (V : VS) (post : Int32 → VS → Prop) (xp : Nat → VS → Prop) : Prop := ((0, 0, 0) ∈ ks ∧ wp_X8_needHalt ks a1 V (fun V1 => (wp_X8_needKind ks a2 5 V1 (fun V3 => ((1, 0, 0) ∈ ks ∧ wp_X7_haltAnswer ks 0 a1 a2 V3 (fun r6 V4 => (post r6 V4)))) xp)) xp)
set_option maxHeartbeats 4000000 in
set_option maxRecDepth 100000 in
theorem c_X8_halt (l : Launch) (hlf : l.stackTraces = false) (G : GG) (ks : List KY) (ad : AD) (a1 : Int32) (a2 : Int32) (V : VS) (post : Int32 → VS → Prop) (xp : Nat → VS → Prop) (h : wp_X8_halt ks a1 a2 V post xp) (sz : Nat) : vx_Met l yX8_halt (ws_ yX8_halt cX8_halt 3 (some .int)) ({ frames := 8, cells := 2, slots := 12, locals := 124 }) (mPc [.ref (ad 0 0 0), .int a1, .int a2] G ks ad V sz) (mQi post G ks ad sz) (mX xp G ks ad sz) 2 12 (mA ks ad sz) := by
  refine g_xmet (own := RX8) (by decide) rfl (Nat.le_of_ble_eq_true rfl) ?_
  intro p e s m args below meth c ls hC hsz hr hlk hin hS ha hl htab
  have hl : lv_has ls 3 [(0, .ref (ad 0 0 0)), (1, .int a1), (2, .int a2)] := hl
  unfold wp_X8_halt at h
  refine lv_aload_n hC.1 hC.2.1 dX8_halt_0 rfl (lv_at hl 0 rfl) ?_
  refine lv_iload_n hC.1 hC.2.1 dX8_halt_1 rfl (lv_at hl 1 rfl) ?_
  obtain ⟨hk2, h⟩ := h
  refine g_xcallv hS htab hlk ⟨Nat.le_of_ble_eq_true rfl, Nat.le_of_ble_eq_true rfl⟩ (g_xrunV (n := 1) (rest := []) (As := [.int a1]) (C := RX8) (T := TX8) (N := 2) hC hS hk2 rfl rfl (c_X8_needHalt l hlf G ks ad a1 V _ _ h _) (gI wq_493 wq_495 wq_10 wq_39 wq_496) rfl ⟨⟨by decide +kernel, by decide +kernel, by decide +kernel⟩, rfl, rfl, Nat.le_of_ble_eq_true rfl, Nat.le_of_ble_eq_true rfl⟩ rfl hl rfl (Nat.le_of_ble_eq_true rfl) dX8_halt_2 ⟨Nat.le_of_ble_eq_true rfl, Nat.le_of_ble_eq_true rfl⟩) (fun V1 H locs h hS => ?_)
  refine W.widen (k := 1) (n := 6) (Nat.le_of_ble_eq_true rfl) (Nat.le_of_ble_eq_true rfl) ?_
  refine lv_iload_n hC.1 hC.2.1 dX8_halt_5 rfl (lv_at hl 2 rfl) ?_
  refine lv_iconst (v := 5) hC.1 hC.2.1 dX8_halt_6 (by decide) ?_
  refine g_xcallv hS htab hlk ⟨Nat.le_of_ble_eq_true rfl, Nat.le_of_ble_eq_true rfl⟩ (g_xrunS (n := 2) (rest := []) (As := [.int a2, .int 5]) hC hS (c_X8_needKind l hlf G ks ad a2 5 V1 _ _ h _) (gIS wq_497 wq_498 wq_39 wq_499) ⟨⟨by decide +kernel, by decide +kernel, by decide +kernel⟩, rfl, rfl, Nat.le_of_ble_eq_true rfl, Nat.le_of_ble_eq_true rfl⟩ rfl hl rfl (Nat.le_of_ble_eq_true rfl) dX8_halt_7 ⟨Nat.le_of_ble_eq_true rfl, Nat.le_of_ble_eq_true rfl⟩) (fun V3 H locs h hS => ?_)
  refine W.widen (k := 2) (n := 12) (Nat.le_of_ble_eq_true rfl) (Nat.le_of_ble_eq_true rfl) ?_
  refine lv_aload_n hC.1 hC.2.1 dX8_halt_10 rfl (lv_at hl 0 rfl) ?_
  refine gf_0_0 hC hS hk2 wq_168 dX8_halt_11 ?_
  refine lv_iload_n hC.1 hC.2.1 dX8_halt_14 rfl (lv_at hl 1 rfl) ?_
  refine lv_iload_n hC.1 hC.2.1 dX8_halt_15 rfl (lv_at hl 2 rfl) ?_
  obtain ⟨hk5, h⟩ := h
  refine g_calli0 hS (g_runV (n := 2) (rest := []) (As := [.int a1, .int a2]) (C := RX7) (T := TX7) (N := 9) hC hS hk5 rfl rfl (c_X7_haltAnswer l G ks ad 0 a1 a2 V3 _ h _) (gI wq_610 wq_259 wq_260 wq_40 wq_261) rfl ⟨⟨by decide +kernel, by decide +kernel, by decide +kernel⟩, rfl, rfl, Nat.le_of_ble_eq_true rfl, Nat.le_of_ble_eq_true rfl⟩ rfl hl rfl (Nat.le_of_ble_eq_true rfl) dX8_halt_16 ⟨Nat.le_of_ble_eq_true rfl, Nat.le_of_ble_eq_true rfl⟩) (fun r6 V4 H locs h hS => ?_)
  exact vx_ret (g_iret hC hr hlk hS h dX8_halt_19)
def wp_X8_lane (ks : List KY) (a1 : Int32) (a2 : Int32) (V : VS) (post : Int32 → VS → Prop) (xp : Nat → VS → Prop) : Prop := ((0, 0, 0) ∈ ks ∧ (1, 0, 0) ∈ ks ∧ (2, 0, 1) ∈ ks ∧ wp_X8_needKind ks a1 (V 2 0 1 2 0) V (fun V4 => (wp_X8_needKind ks a2 6 V4 (fun V5 => (wp_X7_laneAnswer ks 0 a1 a2 V5 (fun r7 V6 => (post r7 V6)))) xp)) xp)
set_option maxHeartbeats 4000000 in
set_option maxRecDepth 100000 in
theorem c_X8_lane (l : Launch) (hlf : l.stackTraces = false) (G : GG) (ks : List KY) (ad : AD) (a1 : Int32) (a2 : Int32) (V : VS) (post : Int32 → VS → Prop) (xp : Nat → VS → Prop) (h : wp_X8_lane ks a1 a2 V post xp) (sz : Nat) : vx_Met l yX8_lane (ws_ yX8_lane cX8_lane 3 (some .int)) ({ frames := 7, cells := 2, slots := 12, locals := 103 }) (mPc [.ref (ad 0 0 0), .int a1, .int a2] G ks ad V sz) (mQi post G ks ad sz) (mX xp G ks ad sz) 2 12 (mA ks ad sz) := by
  refine g_xmet (own := RX8) (by decide) rfl (Nat.le_of_ble_eq_true rfl) ?_
  intro p e s m args below meth c ls hC hsz hr hlk hin hS ha hl htab
  have hl : lv_has ls 3 [(0, .ref (ad 0 0 0)), (1, .int a1), (2, .int a2)] := hl
  unfold wp_X8_lane at h
  refine lv_iload_n hC.1 hC.2.1 dX8_lane_0 rfl (lv_at hl 1 rfl) ?_
  refine lv_aload_n hC.1 hC.2.1 dX8_lane_1 rfl (lv_at hl 0 rfl) ?_
  obtain ⟨hk1, h⟩ := h
  refine gf_0_0 hC hS hk1 wq_168 dX8_lane_2 ?_
  obtain ⟨hk2, h⟩ := h
  refine gn_1_1 hC hS hk2 wq_137 dX8_lane_5 ?_
  obtain ⟨hk3, h⟩ := h
  refine g_lsize hC hS hk3 wq_338 hl ⟨Nat.le_of_ble_eq_true rfl, Nat.le_of_ble_eq_true rfl, Nat.zero_le _⟩ (Nat.le_of_ble_eq_true rfl) dX8_lane_8 ⟨Nat.le_of_ble_eq_true rfl, Nat.le_of_ble_eq_true rfl⟩ (fun H locs hS => ?_)
  refine g_xcallv hS htab hlk ⟨Nat.le_of_ble_eq_true rfl, Nat.le_of_ble_eq_true rfl⟩ (g_xrunS (n := 2) (rest := []) (As := [.int a1, .int (V 2 0 1 2 0)]) hC hS (c_X8_needKind l hlf G ks ad a1 (V 2 0 1 2 0) V _ _ h _) (gIS wq_497 wq_498 wq_39 wq_499) ⟨⟨by decide +kernel, by decide +kernel, by decide +kernel⟩, rfl, rfl, Nat.le_of_ble_eq_true rfl, Nat.le_of_ble_eq_true rfl⟩ rfl hl rfl (Nat.le_of_ble_eq_true rfl) dX8_lane_11 ⟨Nat.le_of_ble_eq_true rfl, Nat.le_of_ble_eq_true rfl⟩) (fun V4 H locs h hS => ?_)
  refine W.widen (k := 1) (n := 6) (Nat.le_of_ble_eq_true rfl) (Nat.le_of_ble_eq_true rfl) ?_
  refine lv_iload_n hC.1 hC.2.1 dX8_lane_14 rfl (lv_at hl 2 rfl) ?_
  refine lv_bipush (v := 6) hC.1 hC.2.1 dX8_lane_15 (by decide) ?_
  refine g_xcallv hS htab hlk ⟨Nat.le_of_ble_eq_true rfl, Nat.le_of_ble_eq_true rfl⟩ (g_xrunS (n := 2) (rest := []) (As := [.int a2, .int 6]) hC hS (c_X8_needKind l hlf G ks ad a2 6 V4 _ _ h _) (gIS wq_497 wq_498 wq_39 wq_499) ⟨⟨by decide +kernel, by decide +kernel, by decide +kernel⟩, rfl, rfl, Nat.le_of_ble_eq_true rfl, Nat.le_of_ble_eq_true rfl⟩ rfl hl rfl (Nat.le_of_ble_eq_true rfl) dX8_lane_17 ⟨Nat.le_of_ble_eq_true rfl, Nat.le_of_ble_eq_true rfl⟩) (fun V5 H locs h hS => ?_)
  refine W.widen (k := 2) (n := 12) (Nat.le_of_ble_eq_true rfl) (Nat.le_of_ble_eq_true rfl) ?_
  refine lv_aload_n hC.1 hC.2.1 dX8_lane_20 rfl (lv_at hl 0 rfl) ?_
  refine gf_0_0 hC hS hk1 wq_168 dX8_lane_21 ?_
  refine lv_iload_n hC.1 hC.2.1 dX8_lane_24 rfl (lv_at hl 1 rfl) ?_
  refine lv_iload_n hC.1 hC.2.1 dX8_lane_25 rfl (lv_at hl 2 rfl) ?_
  refine g_calli0 hS (g_runV (n := 2) (rest := []) (As := [.int a1, .int a2]) (C := RX7) (T := TX7) (N := 9) hC hS hk2 rfl rfl (c_X7_laneAnswer l G ks ad 0 a1 a2 V5 _ h _) (gI wq_618 wq_277 wq_278 wq_40 wq_279) rfl ⟨⟨by decide +kernel, by decide +kernel, by decide +kernel⟩, rfl, rfl, Nat.le_of_ble_eq_true rfl, Nat.le_of_ble_eq_true rfl⟩ rfl hl rfl (Nat.le_of_ble_eq_true rfl) dX8_lane_26 ⟨Nat.le_of_ble_eq_true rfl, Nat.le_of_ble_eq_true rfl⟩) (fun r7 V6 H locs h hS => ?_)
  exact vx_ret (g_iret hC hr hlk hS h dX8_lane_29)
def wp_X8_way (ks : List KY) (a1 : Int32) (a2 : Int32) (V : VS) (post : Int32 → VS → Prop) (xp : Nat → VS → Prop) : Prop := ((0, 0, 0) ∈ ks ∧ wp_X8_needHalt ks a1 V (fun V1 => (wp_X8_needHalt ks a2 V1 (fun V3 => ((1, 0, 0) ∈ ks ∧ wp_X7_minutesOfWay ks 0 a1 a2 V3 (fun r6 V4 => (post r6 V4)))) xp)) xp)
set_option maxHeartbeats 4000000 in
set_option maxRecDepth 100000 in
theorem c_X8_way (l : Launch) (hlf : l.stackTraces = false) (G : GG) (ks : List KY) (ad : AD) (a1 : Int32) (a2 : Int32) (V : VS) (post : Int32 → VS → Prop) (xp : Nat → VS → Prop) (h : wp_X8_way ks a1 a2 V post xp) (sz : Nat) : vx_Met l yX8_way (ws_ yX8_way cX8_way 3 (some .int)) ({ frames := 8, cells := 2, slots := 12, locals := 124 }) (mPc [.ref (ad 0 0 0), .int a1, .int a2] G ks ad V sz) (mQi post G ks ad sz) (mX xp G ks ad sz) 2 12 (mA ks ad sz) := by
  refine g_xmet (own := RX8) (by decide) rfl (Nat.le_of_ble_eq_true rfl) ?_
  intro p e s m args below meth c ls hC hsz hr hlk hin hS ha hl htab
  have hl : lv_has ls 3 [(0, .ref (ad 0 0 0)), (1, .int a1), (2, .int a2)] := hl
  unfold wp_X8_way at h
  refine lv_aload_n hC.1 hC.2.1 dX8_way_0 rfl (lv_at hl 0 rfl) ?_
  refine lv_iload_n hC.1 hC.2.1 dX8_way_1 rfl (lv_at hl 1 rfl) ?_
  obtain ⟨hk2, h⟩ := h
  refine g_xcallv hS htab hlk ⟨Nat.le_of_ble_eq_true rfl, Nat.le_of_ble_eq_true rfl⟩ (g_xrunV (n := 1) (rest := []) (As := [.int a1]) (C := RX8) (T := TX8) (N := 2) hC hS hk2 rfl rfl (c_X8_needHalt l hlf G ks ad a1 V _ _ h _) (gI wq_493 wq_495 wq_10 wq_39 wq_496) rfl ⟨⟨by decide +kernel, by decide +kernel, by decide +kernel⟩, rfl, rfl, Nat.le_of_ble_eq_true rfl, Nat.le_of_ble_eq_true rfl⟩ rfl hl rfl (Nat.le_of_ble_eq_true rfl) dX8_way_2 ⟨Nat.le_of_ble_eq_true rfl, Nat.le_of_ble_eq_true rfl⟩) (fun V1 H locs h hS => ?_)
  refine W.widen (k := 1) (n := 6) (Nat.le_of_ble_eq_true rfl) (Nat.le_of_ble_eq_true rfl) ?_
  refine lv_aload_n hC.1 hC.2.1 dX8_way_5 rfl (lv_at hl 0 rfl) ?_
  refine lv_iload_n hC.1 hC.2.1 dX8_way_6 rfl (lv_at hl 2 rfl) ?_
  refine g_xcallv hS htab hlk ⟨Nat.le_of_ble_eq_true rfl, Nat.le_of_ble_eq_true rfl⟩ (g_xrunV (n := 1) (rest := []) (As := [.int a2]) (C := RX8) (T := TX8) (N := 2) hC hS hk2 rfl rfl (c_X8_needHalt l hlf G ks ad a2 V1 _ _ h _) (gI wq_493 wq_495 wq_10 wq_39 wq_496) rfl ⟨⟨by decide +kernel, by decide +kernel, by decide +kernel⟩, rfl, rfl, Nat.le_of_ble_eq_true rfl, Nat.le_of_ble_eq_true rfl⟩ rfl hl rfl (Nat.le_of_ble_eq_true rfl) dX8_way_7 ⟨Nat.le_of_ble_eq_true rfl, Nat.le_of_ble_eq_true rfl⟩) (fun V3 H locs h hS => ?_)
  refine W.widen (k := 2) (n := 12) (Nat.le_of_ble_eq_true rfl) (Nat.le_of_ble_eq_true rfl) ?_
  refine lv_aload_n hC.1 hC.2.1 dX8_way_10 rfl (lv_at hl 0 rfl) ?_
  refine gf_0_0 hC hS hk2 wq_168 dX8_way_11 ?_
  refine lv_iload_n hC.1 hC.2.1 dX8_way_14 rfl (lv_at hl 1 rfl) ?_
  refine lv_iload_n hC.1 hC.2.1 dX8_way_15 rfl (lv_at hl 2 rfl) ?_
  obtain ⟨hk5, h⟩ := h
  refine g_calli0 hS (g_runV (n := 2) (rest := []) (As := [.int a1, .int a2]) (C := RX7) (T := TX7) (N := 9) hC hS hk5 rfl rfl (c_X7_minutesOfWay l G ks ad 0 a1 a2 V3 _ h _) (gI wq_626 wq_627 wq_628 wq_40 wq_629) rfl ⟨⟨by decide +kernel, by decide +kernel, by decide +kernel⟩, rfl, rfl, Nat.le_of_ble_eq_true rfl, Nat.le_of_ble_eq_true rfl⟩ rfl hl rfl (Nat.le_of_ble_eq_true rfl) dX8_way_16 ⟨Nat.le_of_ble_eq_true rfl, Nat.le_of_ble_eq_true rfl⟩) (fun r6 V4 H locs h hS => ?_)
  exact vx_ret (g_iret hC hr hlk hS h dX8_way_19)
def wp_X8_reserve (ks : List KY) (a1 : Int32) (a2 : Int32) (V : VS) (post : Int32 → VS → Prop) (xp : Nat → VS → Prop) : Prop := ((0, 0, 0) ∈ ks ∧ wp_X8_needReader ks a1 V (fun V1 => (wp_X8_needBook ks a2 V1 (fun V3 => ((1, 0, 0) ∈ ks ∧ (2, 0, 2) ∈ ks ∧ (3, 0, 2) ∈ ks ∧ lsz V3 0 2 ≤ 33 ∧ (¬ a2 < 0 ∧ a2 < V3 2 0 2 2 0) ∧ ∀ j9 : Nat, j9 = a2.toNatClampNeg → (6, 0, j9) ∈ ks ∧ (8, 0, j9) ∈ ks ∧ wp_X3_placeOf ks 0 j9 a1 V3 (fun r13 V11 => ((r13 = (-1) → (((V11 6 0 j9 3 0) = a1 → (xp 3 V11)) ∧ (¬ ((V11 6 0 j9 3 0) = a1) → (wp_X3_join ks 0 j9 a1 V11 (fun V14 => (wp_X3_size ks 0 j9 V14 (fun r16 V15 => (post r16 V15)))))))) ∧ (¬ (r13 = (-1)) → (xp 3 V11)))))) xp)) xp)
set_option maxHeartbeats 4000000 in
set_option maxRecDepth 100000 in
theorem c_X8_reserve (l : Launch) (hlf : l.stackTraces = false) (G : GG) (ks : List KY) (ad : AD) (a1 : Int32) (a2 : Int32) (V : VS) (post : Int32 → VS → Prop) (xp : Nat → VS → Prop) (h : wp_X8_reserve ks a1 a2 V post xp) (sz : Nat) : vx_Met l yX8_reserve (ws_ yX8_reserve cX8_reserve 4 (some .int)) ({ frames := 8, cells := 3, slots := 18, locals := 124 }) (mPc [.ref (ad 0 0 0), .int a1, .int a2] G ks ad V sz) (mQi post G ks ad sz) (mX xp G ks ad sz) 3 18 (mA ks ad sz) := by
  refine g_xmet (own := RX8) (by decide) rfl (Nat.le_of_ble_eq_true rfl) ?_
  intro p e s m args below meth c ls hC hsz hr hlk hin hS ha hl htab
  have hl : lv_has ls 4 [(0, .ref (ad 0 0 0)), (1, .int a1), (2, .int a2)] := hl
  unfold wp_X8_reserve at h
  refine lv_aload_n hC.1 hC.2.1 dX8_reserve_0 rfl (lv_at hl 0 rfl) ?_
  refine lv_iload_n hC.1 hC.2.1 dX8_reserve_1 rfl (lv_at hl 1 rfl) ?_
  obtain ⟨hk2, h⟩ := h
  refine g_xcallv hS htab hlk ⟨Nat.le_of_ble_eq_true rfl, Nat.le_of_ble_eq_true rfl⟩ (g_xrunV (n := 1) (rest := []) (As := [.int a1]) (C := RX8) (T := TX8) (N := 2) hC hS hk2 rfl rfl (c_X8_needReader l hlf G ks ad a1 V _ _ h _) (gI wq_765 wq_767 wq_12 wq_39 wq_768) rfl ⟨⟨by decide +kernel, by decide +kernel, by decide +kernel⟩, rfl, rfl, Nat.le_of_ble_eq_true rfl, Nat.le_of_ble_eq_true rfl⟩ rfl hl rfl (Nat.le_of_ble_eq_true rfl) dX8_reserve_2 ⟨Nat.le_of_ble_eq_true rfl, Nat.le_of_ble_eq_true rfl⟩) (fun V1 H locs h hS => ?_)
  refine W.widen (k := 1) (n := 6) (Nat.le_of_ble_eq_true rfl) (Nat.le_of_ble_eq_true rfl) ?_
  refine lv_aload_n hC.1 hC.2.1 dX8_reserve_5 rfl (lv_at hl 0 rfl) ?_
  refine lv_iload_n hC.1 hC.2.1 dX8_reserve_6 rfl (lv_at hl 2 rfl) ?_
  refine g_xcallv hS htab hlk ⟨Nat.le_of_ble_eq_true rfl, Nat.le_of_ble_eq_true rfl⟩ (g_xrunV (n := 1) (rest := []) (As := [.int a2]) (C := RX8) (T := TX8) (N := 2) hC hS hk2 rfl rfl (c_X8_needBook l hlf G ks ad a2 V1 _ _ h _) (gI wq_769 wq_771 wq_13 wq_39 wq_772) rfl ⟨⟨by decide +kernel, by decide +kernel, by decide +kernel⟩, rfl, rfl, Nat.le_of_ble_eq_true rfl, Nat.le_of_ble_eq_true rfl⟩ rfl hl rfl (Nat.le_of_ble_eq_true rfl) dX8_reserve_7 ⟨Nat.le_of_ble_eq_true rfl, Nat.le_of_ble_eq_true rfl⟩) (fun V3 H locs h hS => ?_)
  refine W.widen (k := 2) (n := 12) (Nat.le_of_ble_eq_true rfl) (Nat.le_of_ble_eq_true rfl) ?_
  refine lv_aload_n hC.1 hC.2.1 dX8_reserve_10 rfl (lv_at hl 0 rfl) ?_
  refine gf_0_0 hC hS hk2 wq_168 dX8_reserve_11 ?_
  obtain ⟨hk4, h⟩ := h
  refine gn_1_2 hC hS hk4 wq_139 dX8_reserve_14 ?_
  refine lv_iload_n hC.1 hC.2.1 dX8_reserve_17 rfl (lv_at hl 2 rfl) ?_
  obtain ⟨hk5, h⟩ := h
  obtain ⟨hk6, h⟩ := h
  obtain ⟨hq7, h⟩ := h
  obtain ⟨hx8, h⟩ := h
  refine g_lget (E := 6) hC hS rfl hk5 hk6 hq7 hx8.1 hx8.2 wq_773 hl ⟨Nat.le_of_ble_eq_true rfl, Nat.le_of_ble_eq_true rfl, Nat.zero_le _⟩ (Nat.le_of_ble_eq_true rfl) dX8_reserve_18 ⟨Nat.le_of_ble_eq_true rfl, Nat.le_of_ble_eq_true rfl⟩ (fun j9 ej9 H locs hS => ?_)
  have h := h j9 ej9
  obtain ⟨hk10, h⟩ := h
  refine g_cast hC hS hk10 rfl (show vwCl[1]? = some (RX0, TX0, 6) from rfl) wq_659 dX8_reserve_21 ?_
  refine lv_astore_n (lv' := [(3, .ref (ad 6 0 j9)), (0, .ref (ad 0 0 0)), (1, .int a1), (2, .int a2)]) hC.1 hC.2.1 dX8_reserve_24 rfl hl (by decide) rfl (fun ls hl => ?_)
  refine lv_aload_n hC.1 hC.2.1 dX8_reserve_25 rfl (lv_at hl 0 rfl) ?_
  refine gn_6_2 hC hS hk10 wq_683 dX8_reserve_26 ?_
  refine lv_iload_n hC.1 hC.2.1 dX8_reserve_29 rfl (lv_at hl 2 rfl) ?_
  obtain ⟨hk12, h⟩ := h
  refine g_calli0 hS (g_runV (n := 1) (rest := []) (As := [.int a1]) (C := RX3) (T := TX3) (N := 2) hC hS hk12 rfl rfl (c_X3_placeOf l G ks ad 0 j9 a1 V3 _ h _) (gI wq_774 wq_327 wq_328 wq_63 wq_329) rfl ⟨⟨by decide +kernel, by decide +kernel, by decide +kernel⟩, rfl, rfl, Nat.le_of_ble_eq_true rfl, Nat.le_of_ble_eq_true rfl⟩ rfl hl rfl (Nat.le_of_ble_eq_true rfl) dX8_reserve_30 ⟨Nat.le_of_ble_eq_true rfl, Nat.le_of_ble_eq_true rfl⟩) (fun r13 V11 H locs h hS => ?_)
  refine lv_iconst (v := (-1)) hC.1 hC.2.1 dX8_reserve_33 (by decide) ?_
  refine lv_icmp_eq (tgt := 47) hC.1 hC.2.1 dX8_reserve_34 (by decide) (fun c18 => ?_) (fun c18 => ?_)
  · have h := h.1 c18
    refine lv_aload_n hC.1 hC.2.1 dX8_reserve_47 rfl (lv_at hl 0 rfl) ?_
    refine gn_6_3 hC hS hk10 wq_687 dX8_reserve_48 ?_
    refine lv_iload_n hC.1 hC.2.1 dX8_reserve_51 rfl (lv_at hl 2 rfl) ?_
    refine lv_icmp_ne (tgt := 65) hC.1 hC.2.1 dX8_reserve_52 (by decide) (fun c17 => ?_) (fun c17 => ?_)
    · have h := h.2 c17
      refine lv_aload_n hC.1 hC.2.1 dX8_reserve_65 rfl (lv_at hl 0 rfl) ?_
      refine gn_6_2 hC hS hk10 wq_683 dX8_reserve_66 ?_
      refine lv_iload_n hC.1 hC.2.1 dX8_reserve_69 rfl (lv_at hl 2 rfl) ?_
      refine g_callv0 hS (g_runV (n := 1) (rest := []) (As := [.int a1]) (C := RX3) (T := TX3) (N := 2) hC hS hk12 rfl rfl (c_X3_join l G ks ad 0 j9 a1 V11 _ h _) (gI wq_777 wq_778 wq_779 wq_63 wq_780) rfl ⟨⟨by decide +kernel, by decide +kernel, by decide +kernel⟩, rfl, rfl, Nat.le_of_ble_eq_true rfl, Nat.le_of_ble_eq_true rfl⟩ rfl hl rfl (Nat.le_of_ble_eq_true rfl) dX8_reserve_70 ⟨Nat.le_of_ble_eq_true rfl, Nat.le_of_ble_eq_true rfl⟩) (fun V14 H locs h hS => ?_)
      refine lv_aload_n hC.1 hC.2.1 dX8_reserve_73 rfl (lv_at hl 0 rfl) ?_
      refine gn_6_2 hC hS hk10 wq_683 dX8_reserve_74 ?_
      refine g_calli0 hS (g_runV (n := 0) (rest := []) (As := []) (C := RX3) (T := TX3) (N := 2) hC hS hk12 rfl rfl (c_X3_size l G ks ad 0 j9 V14 _ h _) (gI wq_781 wq_293 wq_294 wq_63 wq_295) rfl ⟨⟨by decide +kernel, by decide +kernel, by decide +kernel⟩, rfl, rfl, Nat.le_of_ble_eq_true rfl, Nat.le_of_ble_eq_true rfl⟩ rfl hl rfl (Nat.le_of_ble_eq_true rfl) dX8_reserve_77 ⟨Nat.le_of_ble_eq_true rfl, Nat.le_of_ble_eq_true rfl⟩) (fun r16 V15 H locs h hS => ?_)
      refine W.widen (k := 3) (n := 18) (Nat.le_of_ble_eq_true rfl) (Nat.le_of_ble_eq_true rfl) ?_
      exact vx_ret (g_iret hC hr hlk hS h dX8_reserve_80)
    · have h := h.1 c17
      exact g_throw (n := 3) hlf hC hS hl htab hlk (by decide +kernel) hat_3 hbt_3 hgd_3 wq_339 wq_51 sr_157 dX8_reserve_55 dX8_reserve_58 dX8_reserve_59 dX8_reserve_61 dX8_reserve_64 ⟨Nat.le_of_ble_eq_true rfl, Nat.le_of_ble_eq_true rfl, Nat.le_of_ble_eq_true rfl, Nat.le_of_ble_eq_true rfl⟩ ⟨Nat.le_of_ble_eq_true rfl, Nat.le_of_ble_eq_true rfl⟩ h
  · have h := h.2 c18
    exact g_throw (n := 3) hlf hC hS hl htab hlk (by decide +kernel) hat_3 hbt_3 hgd_3 wq_339 wq_51 sr_151 dX8_reserve_37 dX8_reserve_40 dX8_reserve_41 dX8_reserve_43 dX8_reserve_46 ⟨Nat.le_of_ble_eq_true rfl, Nat.le_of_ble_eq_true rfl, Nat.le_of_ble_eq_true rfl, Nat.le_of_ble_eq_true rfl⟩ ⟨Nat.le_of_ble_eq_true rfl, Nat.le_of_ble_eq_true rfl⟩ h
def wp_X8_cancel (ks : List KY) (a1 : Int32) (a2 : Int32) (V : VS) (post : Int32 → VS → Prop) (xp : Nat → VS → Prop) : Prop := ((0, 0, 0) ∈ ks ∧ wp_X8_needReader ks a1 V (fun V1 => (wp_X8_needBook ks a2 V1 (fun V3 => ((1, 0, 0) ∈ ks ∧ (2, 0, 2) ∈ ks ∧ (3, 0, 2) ∈ ks ∧ lsz V3 0 2 ≤ 33 ∧ (¬ a2 < 0 ∧ a2 < V3 2 0 2 2 0) ∧ ∀ j9 : Nat, j9 = a2.toNatClampNeg → (6, 0, j9) ∈ ks ∧ (8, 0, j9) ∈ ks ∧ wp_X3_placeOf ks 0 j9 a1 V3 (fun r13 V11 => (wp_X3_dropPlace ks 0 j9 r13 V11 (fun V14 => (post r13 V14)))))) xp)) xp)
set_option maxHeartbeats 4000000 in
set_option maxRecDepth 100000 in
theorem c_X8_cancel (l : Launch) (hlf : l.stackTraces = false) (G : GG) (ks : List KY) (ad : AD) (a1 : Int32) (a2 : Int32) (V : VS) (post : Int32 → VS → Prop) (xp : Nat → VS → Prop) (h : wp_X8_cancel ks a1 a2 V post xp) (sz : Nat) : vx_Met l yX8_cancel (ws_ yX8_cancel cX8_cancel 5 (some .int)) ({ frames := 8, cells := 2, slots := 12, locals := 124 }) (mPc [.ref (ad 0 0 0), .int a1, .int a2] G ks ad V sz) (mQi post G ks ad sz) (mX xp G ks ad sz) 2 12 (mA ks ad sz) := by
  refine g_xmet (own := RX8) (by decide) rfl (Nat.le_of_ble_eq_true rfl) ?_
  intro p e s m args below meth c ls hC hsz hr hlk hin hS ha hl htab
  have hl : lv_has ls 5 [(0, .ref (ad 0 0 0)), (1, .int a1), (2, .int a2)] := hl
  unfold wp_X8_cancel at h
  refine lv_aload_n hC.1 hC.2.1 dX8_cancel_0 rfl (lv_at hl 0 rfl) ?_
  refine lv_iload_n hC.1 hC.2.1 dX8_cancel_1 rfl (lv_at hl 1 rfl) ?_
  obtain ⟨hk2, h⟩ := h
  refine g_xcallv hS htab hlk ⟨Nat.le_of_ble_eq_true rfl, Nat.le_of_ble_eq_true rfl⟩ (g_xrunV (n := 1) (rest := []) (As := [.int a1]) (C := RX8) (T := TX8) (N := 2) hC hS hk2 rfl rfl (c_X8_needReader l hlf G ks ad a1 V _ _ h _) (gI wq_765 wq_767 wq_12 wq_39 wq_768) rfl ⟨⟨by decide +kernel, by decide +kernel, by decide +kernel⟩, rfl, rfl, Nat.le_of_ble_eq_true rfl, Nat.le_of_ble_eq_true rfl⟩ rfl hl rfl (Nat.le_of_ble_eq_true rfl) dX8_cancel_2 ⟨Nat.le_of_ble_eq_true rfl, Nat.le_of_ble_eq_true rfl⟩) (fun V1 H locs h hS => ?_)
  refine W.widen (k := 1) (n := 6) (Nat.le_of_ble_eq_true rfl) (Nat.le_of_ble_eq_true rfl) ?_
  refine lv_aload_n hC.1 hC.2.1 dX8_cancel_5 rfl (lv_at hl 0 rfl) ?_
  refine lv_iload_n hC.1 hC.2.1 dX8_cancel_6 rfl (lv_at hl 2 rfl) ?_
  refine g_xcallv hS htab hlk ⟨Nat.le_of_ble_eq_true rfl, Nat.le_of_ble_eq_true rfl⟩ (g_xrunV (n := 1) (rest := []) (As := [.int a2]) (C := RX8) (T := TX8) (N := 2) hC hS hk2 rfl rfl (c_X8_needBook l hlf G ks ad a2 V1 _ _ h _) (gI wq_769 wq_771 wq_13 wq_39 wq_772) rfl ⟨⟨by decide +kernel, by decide +kernel, by decide +kernel⟩, rfl, rfl, Nat.le_of_ble_eq_true rfl, Nat.le_of_ble_eq_true rfl⟩ rfl hl rfl (Nat.le_of_ble_eq_true rfl) dX8_cancel_7 ⟨Nat.le_of_ble_eq_true rfl, Nat.le_of_ble_eq_true rfl⟩) (fun V3 H locs h hS => ?_)
  refine W.widen (k := 2) (n := 12) (Nat.le_of_ble_eq_true rfl) (Nat.le_of_ble_eq_true rfl) ?_
  refine lv_aload_n hC.1 hC.2.1 dX8_cancel_10 rfl (lv_at hl 0 rfl) ?_
  refine gf_0_0 hC hS hk2 wq_168 dX8_cancel_11 ?_
  obtain ⟨hk4, h⟩ := h
  refine gn_1_2 hC hS hk4 wq_139 dX8_cancel_14 ?_
  refine lv_iload_n hC.1 hC.2.1 dX8_cancel_17 rfl (lv_at hl 2 rfl) ?_
  obtain ⟨hk5, h⟩ := h
  obtain ⟨hk6, h⟩ := h
  obtain ⟨hq7, h⟩ := h
  obtain ⟨hx8, h⟩ := h
  refine g_lget (E := 6) hC hS rfl hk5 hk6 hq7 hx8.1 hx8.2 wq_773 hl ⟨Nat.le_of_ble_eq_true rfl, Nat.le_of_ble_eq_true rfl, Nat.zero_le _⟩ (Nat.le_of_ble_eq_true rfl) dX8_cancel_18 ⟨Nat.le_of_ble_eq_true rfl, Nat.le_of_ble_eq_true rfl⟩ (fun j9 ej9 H locs hS => ?_)
  have h := h j9 ej9
  obtain ⟨hk10, h⟩ := h
  refine g_cast hC hS hk10 rfl (show vwCl[1]? = some (RX0, TX0, 6) from rfl) wq_659 dX8_cancel_21 ?_
  refine gn_6_2 hC hS hk10 wq_683 dX8_cancel_24 ?_
  refine lv_astore_n (lv' := [(3, .ref (ad 8 0 j9)), (0, .ref (ad 0 0 0)), (1, .int a1), (2, .int a2)]) hC.1 hC.2.1 dX8_cancel_27 rfl hl (by decide) rfl (fun ls hl => ?_)
  refine lv_aload_n hC.1 hC.2.1 dX8_cancel_28 rfl (lv_at hl 0 rfl) ?_
  refine lv_iload_n hC.1 hC.2.1 dX8_cancel_29 rfl (lv_at hl 2 rfl) ?_
  obtain ⟨hk12, h⟩ := h
  refine g_calli0 hS (g_runV (n := 1) (rest := []) (As := [.int a1]) (C := RX3) (T := TX3) (N := 2) hC hS hk12 rfl rfl (c_X3_placeOf l G ks ad 0 j9 a1 V3 _ h _) (gI wq_774 wq_327 wq_328 wq_63 wq_329) rfl ⟨⟨by decide +kernel, by decide +kernel, by decide +kernel⟩, rfl, rfl, Nat.le_of_ble_eq_true rfl, Nat.le_of_ble_eq_true rfl⟩ rfl hl rfl (Nat.le_of_ble_eq_true rfl) dX8_cancel_30 ⟨Nat.le_of_ble_eq_true rfl, Nat.le_of_ble_eq_true rfl⟩) (fun r13 V11 H locs h hS => ?_)
  refine lv_istore (lv' := [(4, .int r13), (3, .ref (ad 8 0 j9)), (0, .ref (ad 0 0 0)), (1, .int a1), (2, .int a2)]) hC.1 hC.2.1 dX8_cancel_33 hl (by decide) rfl (fun ls hl => ?_)
  refine lv_aload_n hC.1 hC.2.1 dX8_cancel_35 rfl (lv_at hl 1 rfl) ?_
  refine lv_iload hC.1 hC.2.1 dX8_cancel_36 (lv_at hl 0 rfl) ?_
  refine g_callv0 hS (g_runV (n := 1) (rest := []) (As := [.int r13]) (C := RX3) (T := TX3) (N := 2) hC hS hk12 rfl rfl (c_X3_dropPlace l G ks ad 0 j9 r13 V11 _ h _) (gI wq_789 wq_790 wq_791 wq_63 wq_792) rfl ⟨⟨by decide +kernel, by decide +kernel, by decide +kernel⟩, rfl, rfl, Nat.le_of_ble_eq_true rfl, Nat.le_of_ble_eq_true rfl⟩ rfl hl rfl (Nat.le_of_ble_eq_true rfl) dX8_cancel_38 ⟨Nat.le_of_ble_eq_true rfl, Nat.le_of_ble_eq_true rfl⟩) (fun V14 H locs h hS => ?_)
  refine lv_iload hC.1 hC.2.1 dX8_cancel_41 (lv_at hl 0 rfl) ?_
  exact vx_ret (g_iret hC hr hlk hS h dX8_cancel_43)
def wp_X8_book (ks : List KY) (a1 : Int32) (a2 : Int32) (V : VS) (post : Int32 → VS → Prop) (xp : Nat → VS → Prop) : Prop := ((0, 0, 0) ∈ ks ∧ wp_X8_needBook ks a1 V (fun V1 => (wp_X8_needKind ks a2 7 V1 (fun V3 => ((1, 0, 0) ∈ ks ∧ wp_X7_bookAnswer ks 0 a1 a2 V3 (fun r6 V4 => (post r6 V4)))) xp)) xp)
set_option maxHeartbeats 4000000 in
set_option maxRecDepth 100000 in
theorem c_X8_book (l : Launch) (hlf : l.stackTraces = false) (G : GG) (ks : List KY) (ad : AD) (a1 : Int32) (a2 : Int32) (V : VS) (post : Int32 → VS → Prop) (xp : Nat → VS → Prop) (h : wp_X8_book ks a1 a2 V post xp) (sz : Nat) : vx_Met l yX8_book (ws_ yX8_book cX8_book 3 (some .int)) ({ frames := 8, cells := 2, slots := 12, locals := 124 }) (mPc [.ref (ad 0 0 0), .int a1, .int a2] G ks ad V sz) (mQi post G ks ad sz) (mX xp G ks ad sz) 2 12 (mA ks ad sz) := by
  refine g_xmet (own := RX8) (by decide) rfl (Nat.le_of_ble_eq_true rfl) ?_
  intro p e s m args below meth c ls hC hsz hr hlk hin hS ha hl htab
  have hl : lv_has ls 3 [(0, .ref (ad 0 0 0)), (1, .int a1), (2, .int a2)] := hl
  unfold wp_X8_book at h
  refine lv_aload_n hC.1 hC.2.1 dX8_book_0 rfl (lv_at hl 0 rfl) ?_
  refine lv_iload_n hC.1 hC.2.1 dX8_book_1 rfl (lv_at hl 1 rfl) ?_
  obtain ⟨hk2, h⟩ := h
  refine g_xcallv hS htab hlk ⟨Nat.le_of_ble_eq_true rfl, Nat.le_of_ble_eq_true rfl⟩ (g_xrunV (n := 1) (rest := []) (As := [.int a1]) (C := RX8) (T := TX8) (N := 2) hC hS hk2 rfl rfl (c_X8_needBook l hlf G ks ad a1 V _ _ h _) (gI wq_769 wq_771 wq_13 wq_39 wq_772) rfl ⟨⟨by decide +kernel, by decide +kernel, by decide +kernel⟩, rfl, rfl, Nat.le_of_ble_eq_true rfl, Nat.le_of_ble_eq_true rfl⟩ rfl hl rfl (Nat.le_of_ble_eq_true rfl) dX8_book_2 ⟨Nat.le_of_ble_eq_true rfl, Nat.le_of_ble_eq_true rfl⟩) (fun V1 H locs h hS => ?_)
  refine W.widen (k := 1) (n := 6) (Nat.le_of_ble_eq_true rfl) (Nat.le_of_ble_eq_true rfl) ?_
  refine lv_iload_n hC.1 hC.2.1 dX8_book_5 rfl (lv_at hl 2 rfl) ?_
  refine lv_bipush (v := 7) hC.1 hC.2.1 dX8_book_6 (by decide) ?_
  refine g_xcallv hS htab hlk ⟨Nat.le_of_ble_eq_true rfl, Nat.le_of_ble_eq_true rfl⟩ (g_xrunS (n := 2) (rest := []) (As := [.int a2, .int 7]) hC hS (c_X8_needKind l hlf G ks ad a2 7 V1 _ _ h _) (gIS wq_497 wq_498 wq_39 wq_499) ⟨⟨by decide +kernel, by decide +kernel, by decide +kernel⟩, rfl, rfl, Nat.le_of_ble_eq_true rfl, Nat.le_of_ble_eq_true rfl⟩ rfl hl rfl (Nat.le_of_ble_eq_true rfl) dX8_book_8 ⟨Nat.le_of_ble_eq_true rfl, Nat.le_of_ble_eq_true rfl⟩) (fun V3 H locs h hS => ?_)
  refine W.widen (k := 2) (n := 12) (Nat.le_of_ble_eq_true rfl) (Nat.le_of_ble_eq_true rfl) ?_
  refine lv_aload_n hC.1 hC.2.1 dX8_book_11 rfl (lv_at hl 0 rfl) ?_
  refine gf_0_0 hC hS hk2 wq_168 dX8_book_12 ?_
  refine lv_iload_n hC.1 hC.2.1 dX8_book_15 rfl (lv_at hl 1 rfl) ?_
  refine lv_iload_n hC.1 hC.2.1 dX8_book_16 rfl (lv_at hl 2 rfl) ?_
  obtain ⟨hk5, h⟩ := h
  refine g_calli0 hS (g_runV (n := 2) (rest := []) (As := [.int a1, .int a2]) (C := RX7) (T := TX7) (N := 9) hC hS hk5 rfl rfl (c_X7_bookAnswer l G ks ad 0 a1 a2 V3 _ h _) (gI wq_800 wq_289 wq_290 wq_40 wq_291) rfl ⟨⟨by decide +kernel, by decide +kernel, by decide +kernel⟩, rfl, rfl, Nat.le_of_ble_eq_true rfl, Nat.le_of_ble_eq_true rfl⟩ rfl hl rfl (Nat.le_of_ble_eq_true rfl) dX8_book_17 ⟨Nat.le_of_ble_eq_true rfl, Nat.le_of_ble_eq_true rfl⟩) (fun r6 V4 H locs h hS => ?_)
  exact vx_ret (g_iret hC hr hlk hS h dX8_book_20)
def wp_X8_reader (ks : List KY) (a1 : Int32) (a2 : Int32) (V : VS) (post : Int32 → VS → Prop) (xp : Nat → VS → Prop) : Prop := ((0, 0, 0) ∈ ks ∧ wp_X8_needReader ks a1 V (fun V1 => (wp_X8_needKind ks a2 8 V1 (fun V3 => ((1, 0, 0) ∈ ks ∧ wp_X7_readerAnswer ks 0 a1 a2 V3 (fun r6 V4 => (post r6 V4)))) xp)) xp)
set_option maxHeartbeats 4000000 in
set_option maxRecDepth 100000 in
theorem c_X8_reader (l : Launch) (hlf : l.stackTraces = false) (G : GG) (ks : List KY) (ad : AD) (a1 : Int32) (a2 : Int32) (V : VS) (post : Int32 → VS → Prop) (xp : Nat → VS → Prop) (h : wp_X8_reader ks a1 a2 V post xp) (sz : Nat) : vx_Met l yX8_reader (ws_ yX8_reader cX8_reader 3 (some .int)) ({ frames := 8, cells := 2, slots := 12, locals := 124 }) (mPc [.ref (ad 0 0 0), .int a1, .int a2] G ks ad V sz) (mQi post G ks ad sz) (mX xp G ks ad sz) 2 12 (mA ks ad sz) := by
  refine g_xmet (own := RX8) (by decide) rfl (Nat.le_of_ble_eq_true rfl) ?_
  intro p e s m args below meth c ls hC hsz hr hlk hin hS ha hl htab
  have hl : lv_has ls 3 [(0, .ref (ad 0 0 0)), (1, .int a1), (2, .int a2)] := hl
  unfold wp_X8_reader at h
  refine lv_aload_n hC.1 hC.2.1 dX8_reader_0 rfl (lv_at hl 0 rfl) ?_
  refine lv_iload_n hC.1 hC.2.1 dX8_reader_1 rfl (lv_at hl 1 rfl) ?_
  obtain ⟨hk2, h⟩ := h
  refine g_xcallv hS htab hlk ⟨Nat.le_of_ble_eq_true rfl, Nat.le_of_ble_eq_true rfl⟩ (g_xrunV (n := 1) (rest := []) (As := [.int a1]) (C := RX8) (T := TX8) (N := 2) hC hS hk2 rfl rfl (c_X8_needReader l hlf G ks ad a1 V _ _ h _) (gI wq_765 wq_767 wq_12 wq_39 wq_768) rfl ⟨⟨by decide +kernel, by decide +kernel, by decide +kernel⟩, rfl, rfl, Nat.le_of_ble_eq_true rfl, Nat.le_of_ble_eq_true rfl⟩ rfl hl rfl (Nat.le_of_ble_eq_true rfl) dX8_reader_2 ⟨Nat.le_of_ble_eq_true rfl, Nat.le_of_ble_eq_true rfl⟩) (fun V1 H locs h hS => ?_)
  refine W.widen (k := 1) (n := 6) (Nat.le_of_ble_eq_true rfl) (Nat.le_of_ble_eq_true rfl) ?_
  refine lv_iload_n hC.1 hC.2.1 dX8_reader_5 rfl (lv_at hl 2 rfl) ?_
  refine lv_bipush (v := 8) hC.1 hC.2.1 dX8_reader_6 (by decide) ?_
  refine g_xcallv hS htab hlk ⟨Nat.le_of_ble_eq_true rfl, Nat.le_of_ble_eq_true rfl⟩ (g_xrunS (n := 2) (rest := []) (As := [.int a2, .int 8]) hC hS (c_X8_needKind l hlf G ks ad a2 8 V1 _ _ h _) (gIS wq_497 wq_498 wq_39 wq_499) ⟨⟨by decide +kernel, by decide +kernel, by decide +kernel⟩, rfl, rfl, Nat.le_of_ble_eq_true rfl, Nat.le_of_ble_eq_true rfl⟩ rfl hl rfl (Nat.le_of_ble_eq_true rfl) dX8_reader_8 ⟨Nat.le_of_ble_eq_true rfl, Nat.le_of_ble_eq_true rfl⟩) (fun V3 H locs h hS => ?_)
  refine W.widen (k := 2) (n := 12) (Nat.le_of_ble_eq_true rfl) (Nat.le_of_ble_eq_true rfl) ?_
  refine lv_aload_n hC.1 hC.2.1 dX8_reader_11 rfl (lv_at hl 0 rfl) ?_
  refine gf_0_0 hC hS hk2 wq_168 dX8_reader_12 ?_
  refine lv_iload_n hC.1 hC.2.1 dX8_reader_15 rfl (lv_at hl 1 rfl) ?_
  refine lv_iload_n hC.1 hC.2.1 dX8_reader_16 rfl (lv_at hl 2 rfl) ?_
  obtain ⟨hk5, h⟩ := h
  refine g_calli0 hS (g_runV (n := 2) (rest := []) (As := [.int a1, .int a2]) (C := RX7) (T := TX7) (N := 9) hC hS hk5 rfl rfl (c_X7_readerAnswer l G ks ad 0 a1 a2 V3 _ h _) (gI wq_808 wq_313 wq_314 wq_40 wq_315) rfl ⟨⟨by decide +kernel, by decide +kernel, by decide +kernel⟩, rfl, rfl, Nat.le_of_ble_eq_true rfl, Nat.le_of_ble_eq_true rfl⟩ rfl hl rfl (Nat.le_of_ble_eq_true rfl) dX8_reader_17 ⟨Nat.le_of_ble_eq_true rfl, Nat.le_of_ble_eq_true rfl⟩) (fun r6 V4 H locs h hS => ?_)
  exact vx_ret (g_iret hC hr hlk hS h dX8_reader_20)
def wp_X8_pay (ks : List KY) (a1 : Int32) (a2 : Int32) (V : VS) (post : Int32 → VS → Prop) (xp : Nat → VS → Prop) : Prop := ((0, 0, 0) ∈ ks ∧ wp_X8_needReader ks a1 V (fun V1 => ((1, 0, 0) ∈ ks ∧ (2, 0, 3) ∈ ks ∧ (3, 0, 3) ∈ ks ∧ lsz V1 0 3 ≤ 33 ∧ (¬ a1 < 0 ∧ a1 < V1 2 0 3 2 0) ∧ ∀ j8 : Nat, j8 = a1.toNatClampNeg → (7, 0, j8) ∈ ks ∧ wp_X8_isWithin ks a2 1 (V1 7 0 j8 6 0) V1 (fun r11 V10 => ((r11 = 0 → (xp 2 V10)) ∧ (¬ (r11 = 0) → (∀ V12 : VS, V12 = vup V10 7 0 j8 6 0 ((V10 7 0 j8 6 0) - a2) → post (V12 7 0 j8 6 0) V12)))))) xp)
set_option maxHeartbeats 4000000 in
set_option maxRecDepth 100000 in
theorem c_X8_pay (l : Launch) (hlf : l.stackTraces = false) (G : GG) (ks : List KY) (ad : AD) (a1 : Int32) (a2 : Int32) (V : VS) (post : Int32 → VS → Prop) (xp : Nat → VS → Prop) (h : wp_X8_pay ks a1 a2 V post xp) (sz : Nat) : vx_Met l yX8_pay (ws_ yX8_pay cX8_pay 4 (some .int)) ({ frames := 8, cells := 2, slots := 12, locals := 124 }) (mPc [.ref (ad 0 0 0), .int a1, .int a2] G ks ad V sz) (mQi post G ks ad sz) (mX xp G ks ad sz) 2 12 (mA ks ad sz) := by
  refine g_xmet (own := RX8) (by decide) rfl (Nat.le_of_ble_eq_true rfl) ?_
  intro p e s m args below meth c ls hC hsz hr hlk hin hS ha hl htab
  have hl : lv_has ls 4 [(0, .ref (ad 0 0 0)), (1, .int a1), (2, .int a2)] := hl
  unfold wp_X8_pay at h
  refine lv_aload_n hC.1 hC.2.1 dX8_pay_0 rfl (lv_at hl 0 rfl) ?_
  refine lv_iload_n hC.1 hC.2.1 dX8_pay_1 rfl (lv_at hl 1 rfl) ?_
  obtain ⟨hk2, h⟩ := h
  refine g_xcallv hS htab hlk ⟨Nat.le_of_ble_eq_true rfl, Nat.le_of_ble_eq_true rfl⟩ (g_xrunV (n := 1) (rest := []) (As := [.int a1]) (C := RX8) (T := TX8) (N := 2) hC hS hk2 rfl rfl (c_X8_needReader l hlf G ks ad a1 V _ _ h _) (gI wq_765 wq_767 wq_12 wq_39 wq_768) rfl ⟨⟨by decide +kernel, by decide +kernel, by decide +kernel⟩, rfl, rfl, Nat.le_of_ble_eq_true rfl, Nat.le_of_ble_eq_true rfl⟩ rfl hl rfl (Nat.le_of_ble_eq_true rfl) dX8_pay_2 ⟨Nat.le_of_ble_eq_true rfl, Nat.le_of_ble_eq_true rfl⟩) (fun V1 H locs h hS => ?_)
  refine W.widen (k := 1) (n := 6) (Nat.le_of_ble_eq_true rfl) (Nat.le_of_ble_eq_true rfl) ?_
  refine lv_aload_n hC.1 hC.2.1 dX8_pay_5 rfl (lv_at hl 0 rfl) ?_
  refine gf_0_0 hC hS hk2 wq_168 dX8_pay_6 ?_
  obtain ⟨hk3, h⟩ := h
  refine gn_1_3 hC hS hk3 wq_141 dX8_pay_9 ?_
  refine lv_iload_n hC.1 hC.2.1 dX8_pay_12 rfl (lv_at hl 1 rfl) ?_
  obtain ⟨hk4, h⟩ := h
  obtain ⟨hk5, h⟩ := h
  obtain ⟨hq6, h⟩ := h
  obtain ⟨hx7, h⟩ := h
  refine g_lget (E := 7) hC hS rfl hk4 hk5 hq6 hx7.1 hx7.2 wq_773 hl ⟨Nat.le_of_ble_eq_true rfl, Nat.le_of_ble_eq_true rfl, Nat.zero_le _⟩ (Nat.le_of_ble_eq_true rfl) dX8_pay_13 ⟨Nat.le_of_ble_eq_true rfl, Nat.le_of_ble_eq_true rfl⟩ (fun j8 ej8 H locs hS => ?_)
  have h := h j8 ej8
  obtain ⟨hk9, h⟩ := h
  refine g_cast hC hS hk9 rfl (show vwCl[5]? = some (RX4, TX4, 8) from rfl) wq_714 dX8_pay_16 ?_
  refine lv_astore_n (lv' := [(3, .ref (ad 7 0 j8)), (0, .ref (ad 0 0 0)), (1, .int a1), (2, .int a2)]) hC.1 hC.2.1 dX8_pay_19 rfl hl (by decide) rfl (fun ls hl => ?_)
  refine lv_iload_n hC.1 hC.2.1 dX8_pay_20 rfl (lv_at hl 3 rfl) ?_
  refine lv_iconst (v := 1) hC.1 hC.2.1 dX8_pay_21 (by decide) ?_
  refine lv_aload_n hC.1 hC.2.1 dX8_pay_22 rfl (lv_at hl 0 rfl) ?_
  refine gn_7_6 hC hS hk9 wq_736 dX8_pay_23 ?_
  refine g_calli0 hS (g_runS (n := 3) (rest := []) (As := [.int a2, .int 1, .int (V1 7 0 j8 6 0)]) hC hS (c_X8_isWithin l G ks ad a2 1 (V1 7 0 j8 6 0) V1 _ h _) (gIS wq_532 wq_533 wq_39 wq_534) ⟨⟨by decide +kernel, by decide +kernel, by decide +kernel⟩, rfl, rfl, Nat.le_of_ble_eq_true rfl, Nat.le_of_ble_eq_true rfl⟩ rfl hl rfl (Nat.le_of_ble_eq_true rfl) dX8_pay_26 ⟨Nat.le_of_ble_eq_true rfl, Nat.le_of_ble_eq_true rfl⟩) (fun r11 V10 H locs h hS => ?_)
  refine lv_if_ne (tgt := 42) hC.1 hC.2.1 dX8_pay_29 (by decide) (fun c13 => ?_) (fun c13 => ?_)
  · have h := h.2 c13
    refine lv_aload_n hC.1 hC.2.1 dX8_pay_42 rfl (lv_at hl 0 rfl) ?_
    refine lv_dup hC.1 hC.2.1 dX8_pay_43 rfl ?_
    refine gn_7_6 hC hS hk9 wq_736 dX8_pay_44 ?_
    refine lv_iload_n hC.1 hC.2.1 dX8_pay_47 rfl (lv_at hl 3 rfl) ?_
    refine lv_isub hC.1 hC.2.1 dX8_pay_48 ?_
    refine pn_7_6 hC hS hk9 wq_736 dX8_pay_49 (fun H locs hS => ?_)
    obtain ⟨V12, eV12⟩ : ∃ z : VS, z = vup V10 7 0 j8 6 0 ((V10 7 0 j8 6 0) - a2) := ⟨_, rfl⟩
    rw [← eV12] at hS
    have h := h V12 eV12
    refine lv_aload_n hC.1 hC.2.1 dX8_pay_52 rfl (lv_at hl 0 rfl) ?_
    refine gn_7_6 hC hS hk9 wq_736 dX8_pay_53 ?_
    refine W.widen (k := 2) (n := 12) (Nat.le_of_ble_eq_true rfl) (Nat.le_of_ble_eq_true rfl) ?_
    exact vx_ret (g_iret hC hr hlk hS h dX8_pay_56)
  · have h := h.1 c13
    exact g_throw (n := 2) hlf hC hS hl htab hlk (by decide +kernel) hat_2 hbt_2 hgd_2 wq_516 wq_58 sr_175 dX8_pay_32 dX8_pay_35 dX8_pay_36 dX8_pay_38 dX8_pay_41 ⟨Nat.le_of_ble_eq_true rfl, Nat.le_of_ble_eq_true rfl, Nat.le_of_ble_eq_true rfl, Nat.le_of_ble_eq_true rfl⟩ ⟨Nat.le_of_ble_eq_true rfl, Nat.le_of_ble_eq_true rfl⟩ h
def wp_X8_pass (ks : List KY) (a1 : Int32) (V : VS) (post : Int32 → VS → Prop) (xp : Nat → VS → Prop) : Prop := (wp_X8_needDays ks a1 60 V (fun V1 => ((0, 0, 0) ∈ ks ∧ (1, 0, 0) ∈ ks ∧ wp_X7_loansOfAll ks 0 V1 (fun r5 V3 => (wp_X7_passDays ks 0 a1 V3 (fun V6 => (wp_X7_loansOfAll ks 0 V6 (fun r8 V7 => (post (r8 - r5) V7)))))))) xp)
set_option maxHeartbeats 4000000 in
set_option maxRecDepth 100000 in
theorem c_X8_pass (l : Launch) (hlf : l.stackTraces = false) (G : GG) (ks : List KY) (ad : AD) (a1 : Int32) (V : VS) (post : Int32 → VS → Prop) (xp : Nat → VS → Prop) (h : wp_X8_pass ks a1 V post xp) (sz : Nat) : vx_Met l yX8_pass (ws_ yX8_pass cX8_pass 3 (some .int)) ({ frames := 7, cells := 1, slots := 6, locals := 159 }) (mPc [.ref (ad 0 0 0), .int a1] G ks ad V sz) (mQi post G ks ad sz) (mX xp G ks ad sz) 1 6 (mA ks ad sz) := by
  refine g_xmet (own := RX8) (by decide) rfl (Nat.le_of_ble_eq_true rfl) ?_
  intro p e s m args below meth c ls hC hsz hr hlk hin hS ha hl htab
  have hl : lv_has ls 3 [(0, .ref (ad 0 0 0)), (1, .int a1)] := hl
  unfold wp_X8_pass at h
  refine lv_iload_n hC.1 hC.2.1 dX8_pass_0 rfl (lv_at hl 1 rfl) ?_
  refine lv_bipush (v := 60) hC.1 hC.2.1 dX8_pass_1 (by decide) ?_
  refine g_xcallv hS htab hlk ⟨Nat.le_of_ble_eq_true rfl, Nat.le_of_ble_eq_true rfl⟩ (g_xrunS (n := 2) (rest := []) (As := [.int a1, .int 60]) hC hS (c_X8_needDays l hlf G ks ad a1 60 V _ _ h _) (gIS wq_824 wq_825 wq_39 wq_826) ⟨⟨by decide +kernel, by decide +kernel, by decide +kernel⟩, rfl, rfl, Nat.le_of_ble_eq_true rfl, Nat.le_of_ble_eq_true rfl⟩ rfl hl rfl (Nat.le_of_ble_eq_true rfl) dX8_pass_3 ⟨Nat.le_of_ble_eq_true rfl, Nat.le_of_ble_eq_true rfl⟩) (fun V1 H locs h hS => ?_)
  refine W.widen (k := 1) (n := 6) (Nat.le_of_ble_eq_true rfl) (Nat.le_of_ble_eq_true rfl) ?_
  refine lv_aload_n hC.1 hC.2.1 dX8_pass_6 rfl (lv_at hl 0 rfl) ?_
  obtain ⟨hk2, h⟩ := h
  refine gf_0_0 hC hS hk2 wq_168 dX8_pass_7 ?_
  obtain ⟨hk4, h⟩ := h
  refine g_calli0 hS (g_runV (n := 0) (rest := []) (As := []) (C := RX7) (T := TX7) (N := 9) hC hS hk4 rfl rfl (c_X7_loansOfAll l G ks ad 0 V1 _ h _) (gI wq_179 wq_180 wq_181 wq_40 wq_182) rfl ⟨⟨by decide +kernel, by decide +kernel, by decide +kernel⟩, rfl, rfl, Nat.le_of_ble_eq_true rfl, Nat.le_of_ble_eq_true rfl⟩ rfl hl rfl (Nat.le_of_ble_eq_true rfl) dX8_pass_10 ⟨Nat.le_of_ble_eq_true rfl, Nat.le_of_ble_eq_true rfl⟩) (fun r5 V3 H locs h hS => ?_)
  refine lv_istore_n (lv' := [(2, .int r5), (0, .ref (ad 0 0 0)), (1, .int a1)]) hC.1 hC.2.1 dX8_pass_13 rfl hl (by decide) rfl (fun ls hl => ?_)
  refine lv_aload_n hC.1 hC.2.1 dX8_pass_14 rfl (lv_at hl 1 rfl) ?_
  refine gf_0_0 hC hS hk2 wq_168 dX8_pass_15 ?_
  refine lv_iload_n hC.1 hC.2.1 dX8_pass_18 rfl (lv_at hl 2 rfl) ?_
  refine g_callv0 hS (g_runV (n := 1) (rest := []) (As := [.int a1]) (C := RX7) (T := TX7) (N := 9) hC hS hk4 rfl rfl (c_X7_passDays l G ks ad 0 a1 V3 _ h _) (gI wq_828 wq_829 wq_830 wq_40 wq_831) rfl ⟨⟨by decide +kernel, by decide +kernel, by decide +kernel⟩, rfl, rfl, Nat.le_of_ble_eq_true rfl, Nat.le_of_ble_eq_true rfl⟩ rfl hl rfl (Nat.le_of_ble_eq_true rfl) dX8_pass_19 ⟨Nat.le_of_ble_eq_true rfl, Nat.le_of_ble_eq_true rfl⟩) (fun V6 H locs h hS => ?_)
  refine lv_aload_n hC.1 hC.2.1 dX8_pass_22 rfl (lv_at hl 1 rfl) ?_
  refine gf_0_0 hC hS hk2 wq_168 dX8_pass_23 ?_
  refine g_calli0 hS (g_runV (n := 0) (rest := []) (As := []) (C := RX7) (T := TX7) (N := 9) hC hS hk4 rfl rfl (c_X7_loansOfAll l G ks ad 0 V6 _ h _) (gI wq_179 wq_180 wq_181 wq_40 wq_182) rfl ⟨⟨by decide +kernel, by decide +kernel, by decide +kernel⟩, rfl, rfl, Nat.le_of_ble_eq_true rfl, Nat.le_of_ble_eq_true rfl⟩ rfl hl rfl (Nat.le_of_ble_eq_true rfl) dX8_pass_26 ⟨Nat.le_of_ble_eq_true rfl, Nat.le_of_ble_eq_true rfl⟩) (fun r8 V7 H locs h hS => ?_)
  refine lv_iload_n hC.1 hC.2.1 dX8_pass_29 rfl (lv_at hl 0 rfl) ?_
  refine lv_isub hC.1 hC.2.1 dX8_pass_30 ?_
  exact vx_ret (g_iret hC hr hlk hS h dX8_pass_31)
def wp_X8_count (ks : List KY) (a1 : Int32) (V : VS) (post : Int32 → VS → Prop) (xp : Nat → VS → Prop) : Prop := (wp_X8_needKind ks a1 10 V (fun V1 => ((0, 0, 0) ∈ ks ∧ (1, 0, 0) ∈ ks ∧ wp_X7_countAnswer ks 0 a1 V1 (fun r5 V3 => (post r5 V3)))) xp)
set_option maxHeartbeats 4000000 in
set_option maxRecDepth 100000 in
theorem c_X8_count (l : Launch) (hlf : l.stackTraces = false) (G : GG) (ks : List KY) (ad : AD) (a1 : Int32) (V : VS) (post : Int32 → VS → Prop) (xp : Nat → VS → Prop) (h : wp_X8_count ks a1 V post xp) (sz : Nat) : vx_Met l yX8_count (ws_ yX8_count cX8_count 2 (some .int)) ({ frames := 7, cells := 1, slots := 6, locals := 107 }) (mPc [.ref (ad 0 0 0), .int a1] G ks ad V sz) (mQi post G ks ad sz) (mX xp G ks ad sz) 1 6 (mA ks ad sz) := by
  refine g_xmet (own := RX8) (by decide) rfl (Nat.le_of_ble_eq_true rfl) ?_
  intro p e s m args below meth c ls hC hsz hr hlk hin hS ha hl htab
  have hl : lv_has ls 2 [(0, .ref (ad 0 0 0)), (1, .int a1)] := hl
  unfold wp_X8_count at h
  refine lv_iload_n hC.1 hC.2.1 dX8_count_0 rfl (lv_at hl 1 rfl) ?_
  refine lv_bipush (v := 10) hC.1 hC.2.1 dX8_count_1 (by decide) ?_
  refine g_xcallv hS htab hlk ⟨Nat.le_of_ble_eq_true rfl, Nat.le_of_ble_eq_true rfl⟩ (g_xrunS (n := 2) (rest := []) (As := [.int a1, .int 10]) hC hS (c_X8_needKind l hlf G ks ad a1 10 V _ _ h _) (gIS wq_497 wq_498 wq_39 wq_499) ⟨⟨by decide +kernel, by decide +kernel, by decide +kernel⟩, rfl, rfl, Nat.le_of_ble_eq_true rfl, Nat.le_of_ble_eq_true rfl⟩ rfl hl rfl (Nat.le_of_ble_eq_true rfl) dX8_count_3 ⟨Nat.le_of_ble_eq_true rfl, Nat.le_of_ble_eq_true rfl⟩) (fun V1 H locs h hS => ?_)
  refine W.widen (k := 1) (n := 6) (Nat.le_of_ble_eq_true rfl) (Nat.le_of_ble_eq_true rfl) ?_
  refine lv_aload_n hC.1 hC.2.1 dX8_count_6 rfl (lv_at hl 0 rfl) ?_
  obtain ⟨hk2, h⟩ := h
  refine gf_0_0 hC hS hk2 wq_168 dX8_count_7 ?_
  refine lv_iload_n hC.1 hC.2.1 dX8_count_10 rfl (lv_at hl 1 rfl) ?_
  obtain ⟨hk4, h⟩ := h
  refine g_calli0 hS (g_runV (n := 1) (rest := []) (As := [.int a1]) (C := RX7) (T := TX7) (N := 9) hC hS hk4 rfl rfl (c_X7_countAnswer l G ks ad 0 a1 V1 _ h _) (gI wq_893 wq_212 wq_213 wq_40 wq_214) rfl ⟨⟨by decide +kernel, by decide +kernel, by decide +kernel⟩, rfl, rfl, Nat.le_of_ble_eq_true rfl, Nat.le_of_ble_eq_true rfl⟩ rfl hl rfl (Nat.le_of_ble_eq_true rfl) dX8_count_11 ⟨Nat.le_of_ble_eq_true rfl, Nat.le_of_ble_eq_true rfl⟩) (fun r5 V3 H locs h hS => ?_)
  exact vx_ret (g_iret hC hr hlk hS h dX8_count_14)
def wp_X8_foresee (ks : List KY) (a1 : Int32) (a2 : Int32) (V : VS) (post : Int32 → VS → Prop) (xp : Nat → VS → Prop) : Prop := (wp_X8_needDays ks a1 60 V (fun V1 => (wp_X8_needKind ks a2 4 V1 (fun V2 => ((0, 0, 0) ∈ ks ∧ (1, 1, 0) ∈ ks ∧ wp_X7_copyFrom ks 1 0 V2 (fun V4 => (wp_X7_passDays ks 1 a1 V4 (fun V6 => ((a2 = 0 → (wp_X7_loansOfAll ks 1 V6 (fun r8 V7 => ((1, 0, 0) ∈ ks ∧ wp_X7_loansOfAll ks 0 V7 (fun r11 V9 => (post (r8 - r11) V9)))))) ∧ (a2 = 1 → (wp_X7_missesOfAll ks 1 V6 (fun r14 V13 => ((1, 0, 0) ∈ ks ∧ wp_X7_missesOfAll ks 0 V13 (fun r17 V15 => (post (r14 - r17) V15)))))) ∧ (a2 = 2 → (wp_X7_booksOnVan ks 1 V6 (fun r20 V19 => (post r20 V19)))) ∧ ((a2.toInt < 0 ∨ 2 < a2.toInt) → (wp_X7_penceOfAll ks 1 V6 (fun r23 V22 => (post r23 V22)))))))))) xp)) xp)
set_option maxHeartbeats 4000000 in
set_option maxRecDepth 100000 in
theorem c_X8_foresee (l : Launch) (hlf : l.stackTraces = false) (G : GG) (ks : List KY) (ad : AD) (a1 : Int32) (a2 : Int32) (V : VS) (post : Int32 → VS → Prop) (xp : Nat → VS → Prop) (h : wp_X8_foresee ks a1 a2 V post xp) (sz : Nat) : vx_Met l yX8_foresee (ws_ yX8_foresee cX8_foresee 3 (some .int)) ({ frames := 7, cells := 2, slots := 12, locals := 159 }) (mPc [.ref (ad 0 0 0), .int a1, .int a2] G ks ad V sz) (mQi post G ks ad sz) (mX xp G ks ad sz) 2 12 (mA ks ad sz) := by
  refine g_xmet (own := RX8) (by decide) rfl (Nat.le_of_ble_eq_true rfl) ?_
  intro p e s m args below meth c ls hC hsz hr hlk hin hS ha hl htab
  have hl : lv_has ls 3 [(0, .ref (ad 0 0 0)), (1, .int a1), (2, .int a2)] := hl
  unfold wp_X8_foresee at h
  refine lv_iload_n hC.1 hC.2.1 dX8_foresee_0 rfl (lv_at hl 1 rfl) ?_
  refine lv_bipush (v := 60) hC.1 hC.2.1 dX8_foresee_1 (by decide) ?_
  refine g_xcallv hS htab hlk ⟨Nat.le_of_ble_eq_true rfl, Nat.le_of_ble_eq_true rfl⟩ (g_xrunS (n := 2) (rest := []) (As := [.int a1, .int 60]) hC hS (c_X8_needDays l hlf G ks ad a1 60 V _ _ h _) (gIS wq_824 wq_825 wq_39 wq_826) ⟨⟨by decide +kernel, by decide +kernel, by decide +kernel⟩, rfl, rfl, Nat.le_of_ble_eq_true rfl, Nat.le_of_ble_eq_true rfl⟩ rfl hl rfl (Nat.le_of_ble_eq_true rfl) dX8_foresee_3 ⟨Nat.le_of_ble_eq_true rfl, Nat.le_of_ble_eq_true rfl⟩) (fun V1 H locs h hS => ?_)
  refine W.widen (k := 1) (n := 6) (Nat.le_of_ble_eq_true rfl) (Nat.le_of_ble_eq_true rfl) ?_
  refine lv_iload_n hC.1 hC.2.1 dX8_foresee_6 rfl (lv_at hl 2 rfl) ?_
  refine lv_iconst (v := 4) hC.1 hC.2.1 dX8_foresee_7 (by decide) ?_
  refine g_xcallv hS htab hlk ⟨Nat.le_of_ble_eq_true rfl, Nat.le_of_ble_eq_true rfl⟩ (g_xrunS (n := 2) (rest := []) (As := [.int a2, .int 4]) hC hS (c_X8_needKind l hlf G ks ad a2 4 V1 _ _ h _) (gIS wq_497 wq_498 wq_39 wq_499) ⟨⟨by decide +kernel, by decide +kernel, by decide +kernel⟩, rfl, rfl, Nat.le_of_ble_eq_true rfl, Nat.le_of_ble_eq_true rfl⟩ rfl hl rfl (Nat.le_of_ble_eq_true rfl) dX8_foresee_8 ⟨Nat.le_of_ble_eq_true rfl, Nat.le_of_ble_eq_true rfl⟩) (fun V2 H locs h hS => ?_)
  refine W.widen (k := 2) (n := 12) (Nat.le_of_ble_eq_true rfl) (Nat.le_of_ble_eq_true rfl) ?_
  refine lv_aload_n hC.1 hC.2.1 dX8_foresee_11 rfl (lv_at hl 0 rfl) ?_
  obtain ⟨hk3, h⟩ := h
  refine gf_0_1 hC hS hk3 wq_169 dX8_foresee_12 ?_
  refine lv_aload_n hC.1 hC.2.1 dX8_foresee_15 rfl (lv_at hl 0 rfl) ?_
  refine gf_0_0 hC hS hk3 wq_168 dX8_foresee_16 ?_
  obtain ⟨hk5, h⟩ := h
  refine g_callv0 hS (g_runV (n := 1) (rest := []) (As := [.ref (ad 1 0 0)]) (C := RX7) (T := TX7) (N := 9) hC hS hk5 rfl rfl (c_X7_copyFrom l G ks ad 1 0 V2 _ h _) (gI wq_901 wq_902 wq_903 wq_40 wq_904) rfl ⟨⟨by decide +kernel, by decide +kernel, by decide +kernel⟩, rfl, rfl, Nat.le_of_ble_eq_true rfl, Nat.le_of_ble_eq_true rfl⟩ rfl hl rfl (Nat.le_of_ble_eq_true rfl) dX8_foresee_19 ⟨Nat.le_of_ble_eq_true rfl, Nat.le_of_ble_eq_true rfl⟩) (fun V4 H locs h hS => ?_)
  refine lv_aload_n hC.1 hC.2.1 dX8_foresee_22 rfl (lv_at hl 0 rfl) ?_
  refine gf_0_1 hC hS hk3 wq_169 dX8_foresee_23 ?_
  refine lv_iload_n hC.1 hC.2.1 dX8_foresee_26 rfl (lv_at hl 1 rfl) ?_
  refine g_callv0 hS (g_runV (n := 1) (rest := []) (As := [.int a1]) (C := RX7) (T := TX7) (N := 9) hC hS hk5 rfl rfl (c_X7_passDays l G ks ad 1 a1 V4 _ h _) (gI wq_828 wq_829 wq_830 wq_40 wq_831) rfl ⟨⟨by decide +kernel, by decide +kernel, by decide +kernel⟩, rfl, rfl, Nat.le_of_ble_eq_true rfl, Nat.le_of_ble_eq_true rfl⟩ rfl hl rfl (Nat.le_of_ble_eq_true rfl) dX8_foresee_27 ⟨Nat.le_of_ble_eq_true rfl, Nat.le_of_ble_eq_true rfl⟩) (fun V6 H locs h hS => ?_)
  refine lv_iload_n hC.1 hC.2.1 dX8_foresee_30 rfl (lv_at hl 2 rfl) ?_
  by_cases c12 : a2 = 0
  · have h := h.1 c12
    refine lv_tableIn (off := 25) (tgt := 56) hC.1 hC.2.1 dX8_foresee_31 (by rw [c12]; decide) (by rw [c12]; decide) (by rw [c12]; decide) (by decide) ?_
    refine lv_aload_n hC.1 hC.2.1 dX8_foresee_56 rfl (lv_at hl 0 rfl) ?_
    refine gf_0_1 hC hS hk3 wq_169 dX8_foresee_57 ?_
    refine g_calli0 hS (g_runV (n := 0) (rest := []) (As := []) (C := RX7) (T := TX7) (N := 9) hC hS hk5 rfl rfl (c_X7_loansOfAll l G ks ad 1 V6 _ h _) (gI wq_179 wq_180 wq_181 wq_40 wq_182) rfl ⟨⟨by decide +kernel, by decide +kernel, by decide +kernel⟩, rfl, rfl, Nat.le_of_ble_eq_true rfl, Nat.le_of_ble_eq_true rfl⟩ rfl hl rfl (Nat.le_of_ble_eq_true rfl) dX8_foresee_60 ⟨Nat.le_of_ble_eq_true rfl, Nat.le_of_ble_eq_true rfl⟩) (fun r8 V7 H locs h hS => ?_)
    refine lv_aload_n hC.1 hC.2.1 dX8_foresee_63 rfl (lv_at hl 0 rfl) ?_
    refine gf_0_0 hC hS hk3 wq_168 dX8_foresee_64 ?_
    obtain ⟨hk10, h⟩ := h
    refine g_calli0 hS (g_runV (n := 0) (rest := [.int r8]) (As := []) (C := RX7) (T := TX7) (N := 9) hC hS hk10 rfl rfl (c_X7_loansOfAll l G ks ad 0 V7 _ h _) (gI wq_179 wq_180 wq_181 wq_40 wq_182) rfl ⟨⟨by decide +kernel, by decide +kernel, by decide +kernel⟩, rfl, rfl, Nat.le_of_ble_eq_true rfl, Nat.le_of_ble_eq_true rfl⟩ rfl hl rfl (Nat.le_of_ble_eq_true rfl) dX8_foresee_67 ⟨Nat.le_of_ble_eq_true rfl, Nat.le_of_ble_eq_true rfl⟩) (fun r11 V9 H locs h hS => ?_)
    refine lv_isub hC.1 hC.2.1 dX8_foresee_70 ?_
    exact vx_ret (g_iret hC hr hlk hS h dX8_foresee_71)
  have h := h.2
  by_cases c18 : a2 = 1
  · have h := h.1 c18
    refine lv_tableIn (off := 41) (tgt := 72) hC.1 hC.2.1 dX8_foresee_31 (by rw [c18]; decide) (by rw [c18]; decide) (by rw [c18]; decide) (by decide) ?_
    refine lv_aload_n hC.1 hC.2.1 dX8_foresee_72 rfl (lv_at hl 0 rfl) ?_
    refine gf_0_1 hC hS hk3 wq_169 dX8_foresee_73 ?_
    refine g_calli0 hS (g_runV (n := 0) (rest := []) (As := []) (C := RX7) (T := TX7) (N := 9) hC hS hk5 rfl rfl (c_X7_missesOfAll l G ks ad 1 V6 _ h _) (gI wq_934 wq_935 wq_936 wq_40 wq_937) rfl ⟨⟨by decide +kernel, by decide +kernel, by decide +kernel⟩, rfl, rfl, Nat.le_of_ble_eq_true rfl, Nat.le_of_ble_eq_true rfl⟩ rfl hl rfl (Nat.le_of_ble_eq_true rfl) dX8_foresee_76 ⟨Nat.le_of_ble_eq_true rfl, Nat.le_of_ble_eq_true rfl⟩) (fun r14 V13 H locs h hS => ?_)
    refine lv_aload_n hC.1 hC.2.1 dX8_foresee_79 rfl (lv_at hl 0 rfl) ?_
    refine gf_0_0 hC hS hk3 wq_168 dX8_foresee_80 ?_
    obtain ⟨hk16, h⟩ := h
    refine g_calli0 hS (g_runV (n := 0) (rest := [.int r14]) (As := []) (C := RX7) (T := TX7) (N := 9) hC hS hk16 rfl rfl (c_X7_missesOfAll l G ks ad 0 V13 _ h _) (gI wq_934 wq_935 wq_936 wq_40 wq_937) rfl ⟨⟨by decide +kernel, by decide +kernel, by decide +kernel⟩, rfl, rfl, Nat.le_of_ble_eq_true rfl, Nat.le_of_ble_eq_true rfl⟩ rfl hl rfl (Nat.le_of_ble_eq_true rfl) dX8_foresee_83 ⟨Nat.le_of_ble_eq_true rfl, Nat.le_of_ble_eq_true rfl⟩) (fun r17 V15 H locs h hS => ?_)
    refine lv_isub hC.1 hC.2.1 dX8_foresee_86 ?_
    exact vx_ret (g_iret hC hr hlk hS h dX8_foresee_87)
  have h := h.2
  by_cases c21 : a2 = 2
  · have h := h.1 c21
    refine lv_tableIn (off := 57) (tgt := 88) hC.1 hC.2.1 dX8_foresee_31 (by rw [c21]; decide) (by rw [c21]; decide) (by rw [c21]; decide) (by decide) ?_
    refine lv_aload_n hC.1 hC.2.1 dX8_foresee_88 rfl (lv_at hl 0 rfl) ?_
    refine gf_0_1 hC hS hk3 wq_169 dX8_foresee_89 ?_
    refine g_calli0 hS (g_runV (n := 0) (rest := []) (As := []) (C := RX7) (T := TX7) (N := 9) hC hS hk5 rfl rfl (c_X7_booksOnVan l G ks ad 1 V6 _ h _) (gI wq_938 wq_216 wq_217 wq_40 wq_218) rfl ⟨⟨by decide +kernel, by decide +kernel, by decide +kernel⟩, rfl, rfl, Nat.le_of_ble_eq_true rfl, Nat.le_of_ble_eq_true rfl⟩ rfl hl rfl (Nat.le_of_ble_eq_true rfl) dX8_foresee_92 ⟨Nat.le_of_ble_eq_true rfl, Nat.le_of_ble_eq_true rfl⟩) (fun r20 V19 H locs h hS => ?_)
    exact vx_ret (g_iret hC hr hlk hS h dX8_foresee_95)
  have h := h.2
  have ht24 : a2.toInt < 0 ∨ 2 < a2.toInt := by
    have e0 : a2.toInt ≠ 0 := fun z => c12 (Int32.toInt_inj.mp (z.trans (by decide)))
    have e1 : a2.toInt ≠ 1 := fun z => c18 (Int32.toInt_inj.mp (z.trans (by decide)))
    have e2 : a2.toInt ≠ 2 := fun z => c21 (Int32.toInt_inj.mp (z.trans (by decide)))
    omega
  have h := h ht24
  refine lv_tableOut (tgt := 96) hC.1 hC.2.1 dX8_foresee_31 ht24 (by decide) ?_
  refine lv_aload_n hC.1 hC.2.1 dX8_foresee_96 rfl (lv_at hl 0 rfl) ?_
  refine gf_0_1 hC hS hk3 wq_169 dX8_foresee_97 ?_
  refine g_calli0 hS (g_runV (n := 0) (rest := []) (As := []) (C := RX7) (T := TX7) (N := 9) hC hS hk5 rfl rfl (c_X7_penceOfAll l G ks ad 1 V6 _ h _) (gI wq_939 wq_225 wq_226 wq_40 wq_227) rfl ⟨⟨by decide +kernel, by decide +kernel, by decide +kernel⟩, rfl, rfl, Nat.le_of_ble_eq_true rfl, Nat.le_of_ble_eq_true rfl⟩ rfl hl rfl (Nat.le_of_ble_eq_true rfl) dX8_foresee_100 ⟨Nat.le_of_ble_eq_true rfl, Nat.le_of_ble_eq_true rfl⟩) (fun r23 V22 H locs h hS => ?_)
  exact vx_ret (g_iret hC hr hlk hS h dX8_foresee_103)
def wk_X8_gets_37 (ks : List KY) (a1 : Int32) (a2 : Int32) (post : Int32 → VS → Prop) (xp : Nat → VS → Prop) (B37 : Int32 → VS → Prop) (x1 : Int32) (x2 : Int32) (x3 : Int32) (V : VS) : Prop := (((100 : Int32) < x3 → (post (-1) V)) ∧ (¬ ((100 : Int32) < x3) → ((0, 0, 0) ∈ ks ∧ (1, 1, 0) ∈ ks ∧ wp_X7_passDays ks 1 1 V (fun V2 => (wp_X7_holderOf ks 1 x2 V2 (fun r5 V4 => ((r5 = x1 → (post x3 V4)) ∧ (¬ (r5 = x1) → (∀ y6 : Int32, y6 = x3 + 1 → B37 y6 V4)))))))))
def wl_X8_gets_37 (ks : List KY) (a1 : Int32) (a2 : Int32) (post : Int32 → VS → Prop) (xp : Nat → VS → Prop) (x1 : Int32) (x2 : Int32) (x3 : Int32) (V : VS) : Prop := ∃ J : Nat → Int32 → VS → Prop, (∃ n, J n x3 V) ∧ ∀ (n : Nat) (x3 : Int32) (V : VS), J n x3 V → wk_X8_gets_37 ks a1 a2 post xp (fun x3 V => ∃ n', n' < n ∧ J n' x3 V) x1 x2 x3 V
def wp_X8_gets (ks : List KY) (a1 : Int32) (a2 : Int32) (V : VS) (post : Int32 → VS → Prop) (xp : Nat → VS → Prop) : Prop := ((0, 0, 0) ∈ ks ∧ wp_X8_needReader ks a1 V (fun V9 => (wp_X8_needBook ks a2 V9 (fun V11 => ((1, 0, 0) ∈ ks ∧ wp_X7_holderOf ks 0 a2 V11 (fun r14 V12 => ((r14 = a1 → (post 0 V12)) ∧ (¬ (r14 = a1) → ((1, 1, 0) ∈ ks ∧ wp_X7_copyFrom ks 1 0 V12 (fun V15 => (wl_X8_gets_37 ks a1 a2 post xp a1 a2 1 V15)))))))) xp)) xp)
set_option maxHeartbeats 4000000 in
set_option maxRecDepth 100000 in
theorem c_X8_gets (l : Launch) (hlf : l.stackTraces = false) (G : GG) (ks : List KY) (ad : AD) (a1 : Int32) (a2 : Int32) (V : VS) (post : Int32 → VS → Prop) (xp : Nat → VS → Prop) (h : wp_X8_gets ks a1 a2 V post xp) (sz : Nat) : vx_Met l yX8_gets (ws_ yX8_gets cX8_gets 4 (some .int)) ({ frames := 8, cells := 2, slots := 12, locals := 159 }) (mPc [.ref (ad 0 0 0), .int a1, .int a2] G ks ad V sz) (mQi post G ks ad sz) (mX xp G ks ad sz) 2 12 (mA ks ad sz) := by
  refine g_xmet (own := RX8) (by decide) rfl (Nat.le_of_ble_eq_true rfl) ?_
  intro p e s m args below meth c ls hC hsz hr hlk hin hS ha hl htab
  have hl : lv_has ls 4 [(0, .ref (ad 0 0 0)), (1, .int a1), (2, .int a2)] := hl
  unfold wp_X8_gets at h
  have kT37 : ∀ (x1 : Int32) (x2 : Int32) (x3 : Int32) (V : VS) (H : Heap) (locs : List Loc) (ls : Array Slot), wl_X8_gets_37 ks a1 a2 post xp x1 x2 x3 V → ST G ks ad V (mA ks ad sz) s.heap H locs → lv_has ls 4 [(0, .ref (ad 0 0 0)), (1, .int x1), (2, .int x2), (3, .int x3)] → W p l e ({ frames := 8, cells := 2, slots := 12, locals := 159 } : Room) s m args below meth c H locs 2 12 (vx_MQ below (mQi post G ks ad sz) (mX xp G ks ad sz) args s 2 12 (mA ks ad sz)) (F0 m 37 ls []) := by
    intro x1 x2 x3 V H locs ls h hS hl
    obtain ⟨J, ⟨n, hJ⟩, hb⟩ := h
    induction n using Nat.strongRecOn generalizing x3 V H locs ls with
    | _ n ih =>
      have h := hb n x3 V hJ
      obtain ⟨B37, eB⟩ : ∃ z : Int32 → VS → Prop, z = (fun x3 V => ∃ n', n' < n ∧ J n' x3 V) := ⟨_, rfl⟩
      rw [← eB] at h
      have kB37 : ∀ (x3 : Int32) (V : VS) (H : Heap) (locs : List Loc) (ls : Array Slot), B37 x3 V → ST G ks ad V (mA ks ad sz) s.heap H locs → lv_has ls 4 [(0, .ref (ad 0 0 0)), (1, .int x1), (2, .int x2), (3, .int x3)] → W p l e ({ frames := 8, cells := 2, slots := 12, locals := 159 } : Room) s m args below meth c H locs 2 12 (vx_MQ below (mQi post G ks ad sz) (mX xp G ks ad sz) args s 2 12 (mA ks ad sz)) (F0 m 37 ls []) := by
        intro x3 V H locs ls h hS hl
        rw [eB] at h
        obtain ⟨n', hn, hJ'⟩ := h
        exact ih n' hn _ _ _ _ _ hS hl hJ'
      clear ih hJ hb eB
      unfold wk_X8_gets_37 at h
      refine lv_iload_n hC.1 hC.2.1 dX8_gets_37 rfl (lv_at hl 3 rfl) ?_
      refine lv_bipush (v := 100) hC.1 hC.2.1 dX8_gets_38 (by decide) ?_
      refine lv_icmp_gt (tgt := 71) hC.1 hC.2.1 dX8_gets_40 (by decide) (fun c8 => ?_) (fun c8 => ?_)
      · have h := h.1 c8
        refine lv_iconst (v := (-1)) hC.1 hC.2.1 dX8_gets_71 (by decide) ?_
        exact vx_ret (g_iret hC hr hlk hS h dX8_gets_72)
      · have h := h.2 c8
        refine lv_aload_n hC.1 hC.2.1 dX8_gets_43 rfl (lv_at hl 0 rfl) ?_
        obtain ⟨hk1, h⟩ := h
        refine gf_0_1 hC hS hk1 wq_169 dX8_gets_44 ?_
        refine lv_iconst (v := 1) hC.1 hC.2.1 dX8_gets_47 (by decide) ?_
        obtain ⟨hk3, h⟩ := h
        refine g_callv0 hS (g_runV (n := 1) (rest := []) (As := [.int 1]) (C := RX7) (T := TX7) (N := 9) hC hS hk3 rfl rfl (c_X7_passDays l G ks ad 1 1 V _ h _) (gI wq_828 wq_829 wq_830 wq_40 wq_831) rfl ⟨⟨by decide +kernel, by decide +kernel, by decide +kernel⟩, rfl, rfl, Nat.le_of_ble_eq_true rfl, Nat.le_of_ble_eq_true rfl⟩ rfl hl rfl (Nat.le_of_ble_eq_true rfl) dX8_gets_48 ⟨Nat.le_of_ble_eq_true rfl, Nat.le_of_ble_eq_true rfl⟩) (fun V2 H locs h hS => ?_)
        refine lv_aload_n hC.1 hC.2.1 dX8_gets_51 rfl (lv_at hl 0 rfl) ?_
        refine gf_0_1 hC hS hk1 wq_169 dX8_gets_52 ?_
        refine lv_iload_n hC.1 hC.2.1 dX8_gets_55 rfl (lv_at hl 2 rfl) ?_
        refine g_calli0 hS (g_runV (n := 1) (rest := []) (As := [.int x2]) (C := RX7) (T := TX7) (N := 9) hC hS hk3 rfl rfl (c_X7_holderOf l G ks ad 1 x2 V2 _ h _) (gI wq_947 wq_948 wq_949 wq_40 wq_950) rfl ⟨⟨by decide +kernel, by decide +kernel, by decide +kernel⟩, rfl, rfl, Nat.le_of_ble_eq_true rfl, Nat.le_of_ble_eq_true rfl⟩ rfl hl rfl (Nat.le_of_ble_eq_true rfl) dX8_gets_56 ⟨Nat.le_of_ble_eq_true rfl, Nat.le_of_ble_eq_true rfl⟩) (fun r5 V4 H locs h hS => ?_)
        refine lv_iload_n hC.1 hC.2.1 dX8_gets_59 rfl (lv_at hl 1 rfl) ?_
        refine lv_icmp_ne (tgt := 65) hC.1 hC.2.1 dX8_gets_60 (by decide) (fun c7 => ?_) (fun c7 => ?_)
        · have h := h.2 c7
          obtain ⟨y6, ey6⟩ : ∃ z : Int32, z = x3 + 1 := ⟨_, rfl⟩
          have h := h y6 ey6
          refine lv_iinc (v := y6) (lv' := [(3, .int y6), (0, .ref (ad 0 0 0)), (1, .int x1), (2, .int x2)]) hC.1 hC.2.1 dX8_gets_65 hl (k := 3) rfl (by rw [ey6]; rfl) (by decide) rfl (fun ls hl => ?_)
          refine lv_goto (tgt := 37) hC.1 hC.2.1 dX8_gets_68 (by decide) ?_
          exact kB37 _ _ _ _ _ h hS (lv_sub hl [1, 2, 3, 0] rfl)
        · have h := h.1 c7
          refine lv_iload_n hC.1 hC.2.1 dX8_gets_63 rfl (lv_at hl 3 rfl) ?_
          exact vx_ret (g_iret hC hr hlk hS h dX8_gets_64)
  refine lv_aload_n hC.1 hC.2.1 dX8_gets_0 rfl (lv_at hl 0 rfl) ?_
  refine lv_iload_n hC.1 hC.2.1 dX8_gets_1 rfl (lv_at hl 1 rfl) ?_
  obtain ⟨hk10, h⟩ := h
  refine g_xcallv hS htab hlk ⟨Nat.le_of_ble_eq_true rfl, Nat.le_of_ble_eq_true rfl⟩ (g_xrunV (n := 1) (rest := []) (As := [.int a1]) (C := RX8) (T := TX8) (N := 2) hC hS hk10 rfl rfl (c_X8_needReader l hlf G ks ad a1 V _ _ h _) (gI wq_765 wq_767 wq_12 wq_39 wq_768) rfl ⟨⟨by decide +kernel, by decide +kernel, by decide +kernel⟩, rfl, rfl, Nat.le_of_ble_eq_true rfl, Nat.le_of_ble_eq_true rfl⟩ rfl hl rfl (Nat.le_of_ble_eq_true rfl) dX8_gets_2 ⟨Nat.le_of_ble_eq_true rfl, Nat.le_of_ble_eq_true rfl⟩) (fun V9 H locs h hS => ?_)
  refine W.widen (k := 1) (n := 6) (Nat.le_of_ble_eq_true rfl) (Nat.le_of_ble_eq_true rfl) ?_
  refine lv_aload_n hC.1 hC.2.1 dX8_gets_5 rfl (lv_at hl 0 rfl) ?_
  refine lv_iload_n hC.1 hC.2.1 dX8_gets_6 rfl (lv_at hl 2 rfl) ?_
  refine g_xcallv hS htab hlk ⟨Nat.le_of_ble_eq_true rfl, Nat.le_of_ble_eq_true rfl⟩ (g_xrunV (n := 1) (rest := []) (As := [.int a2]) (C := RX8) (T := TX8) (N := 2) hC hS hk10 rfl rfl (c_X8_needBook l hlf G ks ad a2 V9 _ _ h _) (gI wq_769 wq_771 wq_13 wq_39 wq_772) rfl ⟨⟨by decide +kernel, by decide +kernel, by decide +kernel⟩, rfl, rfl, Nat.le_of_ble_eq_true rfl, Nat.le_of_ble_eq_true rfl⟩ rfl hl rfl (Nat.le_of_ble_eq_true rfl) dX8_gets_7 ⟨Nat.le_of_ble_eq_true rfl, Nat.le_of_ble_eq_true rfl⟩) (fun V11 H locs h hS => ?_)
  refine W.widen (k := 2) (n := 12) (Nat.le_of_ble_eq_true rfl) (Nat.le_of_ble_eq_true rfl) ?_
  refine lv_aload_n hC.1 hC.2.1 dX8_gets_10 rfl (lv_at hl 0 rfl) ?_
  refine gf_0_0 hC hS hk10 wq_168 dX8_gets_11 ?_
  refine lv_iload_n hC.1 hC.2.1 dX8_gets_14 rfl (lv_at hl 2 rfl) ?_
  obtain ⟨hk13, h⟩ := h
  refine g_calli0 hS (g_runV (n := 1) (rest := []) (As := [.int a2]) (C := RX7) (T := TX7) (N := 9) hC hS hk13 rfl rfl (c_X7_holderOf l G ks ad 0 a2 V11 _ h _) (gI wq_947 wq_948 wq_949 wq_40 wq_950) rfl ⟨⟨by decide +kernel, by decide +kernel, by decide +kernel⟩, rfl, rfl, Nat.le_of_ble_eq_true rfl, Nat.le_of_ble_eq_true rfl⟩ rfl hl rfl (Nat.le_of_ble_eq_true rfl) dX8_gets_15 ⟨Nat.le_of_ble_eq_true rfl, Nat.le_of_ble_eq_true rfl⟩) (fun r14 V12 H locs h hS => ?_)
  refine lv_iload_n hC.1 hC.2.1 dX8_gets_18 rfl (lv_at hl 1 rfl) ?_
  refine lv_icmp_ne (tgt := 24) hC.1 hC.2.1 dX8_gets_19 (by decide) (fun c17 => ?_) (fun c17 => ?_)
  · have h := h.2 c17
    refine lv_aload_n hC.1 hC.2.1 dX8_gets_24 rfl (lv_at hl 0 rfl) ?_
    refine gf_0_1 hC hS hk10 wq_169 dX8_gets_25 ?_
    refine lv_aload_n hC.1 hC.2.1 dX8_gets_28 rfl (lv_at hl 0 rfl) ?_
    refine gf_0_0 hC hS hk10 wq_168 dX8_gets_29 ?_
    obtain ⟨hk16, h⟩ := h
    refine g_callv0 hS (g_runV (n := 1) (rest := []) (As := [.ref (ad 1 0 0)]) (C := RX7) (T := TX7) (N := 9) hC hS hk16 rfl rfl (c_X7_copyFrom l G ks ad 1 0 V12 _ h _) (gI wq_901 wq_902 wq_903 wq_40 wq_904) rfl ⟨⟨by decide +kernel, by decide +kernel, by decide +kernel⟩, rfl, rfl, Nat.le_of_ble_eq_true rfl, Nat.le_of_ble_eq_true rfl⟩ rfl hl rfl (Nat.le_of_ble_eq_true rfl) dX8_gets_32 ⟨Nat.le_of_ble_eq_true rfl, Nat.le_of_ble_eq_true rfl⟩) (fun V15 H locs h hS => ?_)
    refine lv_iconst (v := 1) hC.1 hC.2.1 dX8_gets_35 (by decide) ?_
    refine lv_istore_n (lv' := [(3, .int 1), (0, .ref (ad 0 0 0)), (1, .int a1), (2, .int a2)]) hC.1 hC.2.1 dX8_gets_36 rfl hl (by decide) rfl (fun ls hl => ?_)
    exact kT37 _ _ _ _ _ _ _ h hS (lv_sub hl [1, 2, 3, 0] rfl)
  · have h := h.1 c17
    refine lv_iconst (v := 0) hC.1 hC.2.1 dX8_gets_22 (by decide) ?_
    exact vx_ret (g_iret hC hr hlk hS h dX8_gets_23)
def wk_X8_advise_43 (ks : List KY) (a1 : Int32) (post : Int32 → VS → Prop) (xp : Nat → VS → Prop) (B43 : Int32 → Int32 → Int32 → VS → Prop) (x1 : Int32) (x2 : Int32) (x3 : Int32) (x4 : Int32) (V : VS) : Prop := ((0, 0, 0) ∈ ks ∧ (1, 0, 0) ∈ ks ∧ (2, 0, 0) ∈ ks ∧ ((V 2 0 0 2 0) ≤ x4 → (post x2 V)) ∧ (¬ ((V 2 0 0 2 0) ≤ x4) → (wp_X8_loansAhead ks x1 x4 V (fun r5 V4 => ((r5 ≤ x3 → (∀ y6 : Int32, y6 = x4 + 1 → B43 x2 x3 y6 V4)) ∧ (¬ (r5 ≤ x3) → (∀ y7 : Int32, y7 = x4 + 1 → B43 x4 r5 y7 V4)))))))
def wl_X8_advise_43 (ks : List KY) (a1 : Int32) (post : Int32 → VS → Prop) (xp : Nat → VS → Prop) (x1 : Int32) (x2 : Int32) (x3 : Int32) (x4 : Int32) (V : VS) : Prop := ∃ J : Nat → Int32 → Int32 → Int32 → VS → Prop, (∃ n, J n x2 x3 x4 V) ∧ ∀ (n : Nat) (x2 : Int32) (x3 : Int32) (x4 : Int32) (V : VS), J n x2 x3 x4 V → wk_X8_advise_43 ks a1 post xp (fun x2 x3 x4 V => ∃ n', n' < n ∧ J n' x2 x3 x4 V) x1 x2 x3 x4 V
def wp_X8_advise (ks : List KY) (a1 : Int32) (V : VS) (post : Int32 → VS → Prop) (xp : Nat → VS → Prop) : Prop := (wp_X8_needDays ks a1 30 V (fun V10 => ((0, 0, 0) ∈ ks ∧ (1, 0, 0) ∈ ks ∧ (12, 0, 0) ∈ ks ∧ wp_X5_size ks 0 V10 (fun r15 V13 => ((r15 < 8 → (wp_X8_loansAhead ks a1 (-1) V13 (fun r17 V16 => (wl_X8_advise_43 ks a1 post xp a1 (-1) r17 0 V16)))) ∧ (¬ (r15 < 8) → (xp 3 V13)))))) xp)
set_option maxHeartbeats 4000000 in
set_option maxRecDepth 100000 in
theorem c_X8_advise (l : Launch) (hlf : l.stackTraces = false) (G : GG) (ks : List KY) (ad : AD) (a1 : Int32) (V : VS) (post : Int32 → VS → Prop) (xp : Nat → VS → Prop) (h : wp_X8_advise ks a1 V post xp) (sz : Nat) : vx_Met l yX8_advise (ws_ yX8_advise cX8_advise 6 (some .int)) ({ frames := 8, cells := 2, slots := 12, locals := 181 }) (mPc [.ref (ad 0 0 0), .int a1] G ks ad V sz) (mQi post G ks ad sz) (mX xp G ks ad sz) 2 12 (mA ks ad sz) := by
  refine g_xmet (own := RX8) (by decide) rfl (Nat.le_of_ble_eq_true rfl) ?_
  intro p e s m args below meth c ls hC hsz hr hlk hin hS ha hl htab
  have hl : lv_has ls 6 [(0, .ref (ad 0 0 0)), (1, .int a1)] := hl
  unfold wp_X8_advise at h
  have kT43 : ∀ (x1 : Int32) (x2 : Int32) (x3 : Int32) (x4 : Int32) (V : VS) (H : Heap) (locs : List Loc) (ls : Array Slot), wl_X8_advise_43 ks a1 post xp x1 x2 x3 x4 V → ST G ks ad V (mA ks ad sz) s.heap H locs → lv_has ls 6 [(0, .ref (ad 0 0 0)), (1, .int x1), (2, .int x2), (3, .int x3), (4, .int x4)] → W p l e ({ frames := 8, cells := 2, slots := 12, locals := 181 } : Room) s m args below meth c H locs 1 6 (vx_MQ below (mQi post G ks ad sz) (mX xp G ks ad sz) args s 2 12 (mA ks ad sz)) (F0 m 43 ls []) := by
    intro x1 x2 x3 x4 V H locs ls h hS hl
    obtain ⟨J, ⟨n, hJ⟩, hb⟩ := h
    induction n using Nat.strongRecOn generalizing x2 x3 x4 V H locs ls with
    | _ n ih =>
      have h := hb n x2 x3 x4 V hJ
      obtain ⟨B43, eB⟩ : ∃ z : Int32 → Int32 → Int32 → VS → Prop, z = (fun x2 x3 x4 V => ∃ n', n' < n ∧ J n' x2 x3 x4 V) := ⟨_, rfl⟩
      rw [← eB] at h
      have kB43 : ∀ (x2 : Int32) (x3 : Int32) (x4 : Int32) (V : VS) (H : Heap) (locs : List Loc) (ls : Array Slot), B43 x2 x3 x4 V → ST G ks ad V (mA ks ad sz) s.heap H locs → lv_has ls 6 [(0, .ref (ad 0 0 0)), (1, .int x1), (2, .int x2), (3, .int x3), (4, .int x4)] → W p l e ({ frames := 8, cells := 2, slots := 12, locals := 181 } : Room) s m args below meth c H locs 1 6 (vx_MQ below (mQi post G ks ad sz) (mX xp G ks ad sz) args s 2 12 (mA ks ad sz)) (F0 m 43 ls []) := by
        intro x2 x3 x4 V H locs ls h hS hl
        rw [eB] at h
        obtain ⟨n', hn, hJ'⟩ := h
        exact ih n' hn _ _ _ _ _ _ _ hS hl hJ'
      clear ih hJ hb eB
      unfold wk_X8_advise_43 at h
      refine lv_iload hC.1 hC.2.1 dX8_advise_43 (lv_at hl 4 rfl) ?_
      refine lv_aload_n hC.1 hC.2.1 dX8_advise_45 rfl (lv_at hl 0 rfl) ?_
      obtain ⟨hk1, h⟩ := h
      refine gf_0_0 hC hS hk1 wq_168 dX8_advise_46 ?_
      obtain ⟨hk2, h⟩ := h
      refine gn_1_0 hC hS hk2 wq_135 dX8_advise_49 ?_
      obtain ⟨hk3, h⟩ := h
      refine g_lsize hC hS hk3 wq_338 hl ⟨Nat.le_of_ble_eq_true rfl, Nat.le_of_ble_eq_true rfl, Nat.zero_le _⟩ (Nat.le_of_ble_eq_true rfl) dX8_advise_52 ⟨Nat.le_of_ble_eq_true rfl, Nat.le_of_ble_eq_true rfl⟩ (fun H locs hS => ?_)
      refine lv_icmp_ge (tgt := 85) hC.1 hC.2.1 dX8_advise_55 (by decide) (fun c9 => ?_) (fun c9 => ?_)
      · have h := h.1 c9
        refine lv_iload_n hC.1 hC.2.1 dX8_advise_85 rfl (lv_at hl 2 rfl) ?_
        refine W.widen (k := 2) (n := 12) (Nat.le_of_ble_eq_true rfl) (Nat.le_of_ble_eq_true rfl) ?_
        exact vx_ret (g_iret hC hr hlk hS h dX8_advise_86)
      · have h := h.2 c9
        refine lv_aload_n hC.1 hC.2.1 dX8_advise_58 rfl (lv_at hl 0 rfl) ?_
        refine lv_iload_n hC.1 hC.2.1 dX8_advise_59 rfl (lv_at hl 1 rfl) ?_
        refine lv_iload hC.1 hC.2.1 dX8_advise_60 (lv_at hl 4 rfl) ?_
        refine g_calli0 hS (g_runV (n := 2) (rest := []) (As := [.int x1, .int x4]) (C := RX8) (T := TX8) (N := 2) hC hS hk1 rfl rfl (c_X8_loansAhead l G ks ad x1 x4 V _ h _) (gI wq_959 wq_961 wq_22 wq_39 wq_962) rfl ⟨⟨by decide +kernel, by decide +kernel, by decide +kernel⟩, rfl, rfl, Nat.le_of_ble_eq_true rfl, Nat.le_of_ble_eq_true rfl⟩ rfl hl rfl (Nat.le_of_ble_eq_true rfl) dX8_advise_62 ⟨Nat.le_of_ble_eq_true rfl, Nat.le_of_ble_eq_true rfl⟩) (fun r5 V4 H locs h hS => ?_)
        refine lv_istore (lv' := [(5, .int r5), (0, .ref (ad 0 0 0)), (1, .int x1), (2, .int x2), (3, .int x3), (4, .int x4)]) hC.1 hC.2.1 dX8_advise_65 hl (by decide) rfl (fun ls hl => ?_)
        refine lv_iload hC.1 hC.2.1 dX8_advise_67 (lv_at hl 0 rfl) ?_
        refine lv_iload_n hC.1 hC.2.1 dX8_advise_69 rfl (lv_at hl 4 rfl) ?_
        refine lv_icmp_le (tgt := 79) hC.1 hC.2.1 dX8_advise_70 (by decide) (fun c8 => ?_) (fun c8 => ?_)
        · have h := h.1 c8
          obtain ⟨y6, ey6⟩ : ∃ z : Int32, z = x4 + 1 := ⟨_, rfl⟩
          have h := h y6 ey6
          refine lv_iinc (v := y6) (lv' := [(4, .int y6), (5, .int r5), (0, .ref (ad 0 0 0)), (1, .int x1), (2, .int x2), (3, .int x3)]) hC.1 hC.2.1 dX8_advise_79 hl (k := 5) rfl (by rw [ey6]; rfl) (by decide) rfl (fun ls hl => ?_)
          refine lv_goto (tgt := 43) hC.1 hC.2.1 dX8_advise_82 (by decide) ?_
          exact kB43 _ _ _ _ _ _ _ h hS (lv_sub hl [2, 3, 4, 5, 0] rfl)
        · have h := h.2 c8
          refine lv_iload hC.1 hC.2.1 dX8_advise_73 (lv_at hl 5 rfl) ?_
          refine lv_istore_n (lv' := [(2, .int x4), (5, .int r5), (0, .ref (ad 0 0 0)), (1, .int x1), (3, .int x3), (4, .int x4)]) hC.1 hC.2.1 dX8_advise_75 rfl hl (by decide) rfl (fun ls hl => ?_)
          refine lv_iload hC.1 hC.2.1 dX8_advise_76 (lv_at hl 1 rfl) ?_
          refine lv_istore_n (lv' := [(3, .int r5), (2, .int x4), (5, .int r5), (0, .ref (ad 0 0 0)), (1, .int x1), (4, .int x4)]) hC.1 hC.2.1 dX8_advise_78 rfl hl (by decide) rfl (fun ls hl => ?_)
          obtain ⟨y7, ey7⟩ : ∃ z : Int32, z = x4 + 1 := ⟨_, rfl⟩
          have h := h y7 ey7
          refine lv_iinc (v := y7) (lv' := [(4, .int y7), (3, .int r5), (2, .int x4), (5, .int r5), (0, .ref (ad 0 0 0)), (1, .int x1)]) hC.1 hC.2.1 dX8_advise_79 hl (k := 5) rfl (by rw [ey7]; rfl) (by decide) rfl (fun ls hl => ?_)
          refine lv_goto (tgt := 43) hC.1 hC.2.1 dX8_advise_82 (by decide) ?_
          exact kB43 _ _ _ _ _ _ _ h hS (lv_sub hl [4, 5, 2, 1, 0] rfl)
  refine lv_iload_n hC.1 hC.2.1 dX8_advise_0 rfl (lv_at hl 1 rfl) ?_
  refine lv_bipush (v := 30) hC.1 hC.2.1 dX8_advise_1 (by decide) ?_
  refine g_xcallv hS htab hlk ⟨Nat.le_of_ble_eq_true rfl, Nat.le_of_ble_eq_true rfl⟩ (g_xrunS (n := 2) (rest := []) (As := [.int a1, .int 30]) hC hS (c_X8_needDays l hlf G ks ad a1 30 V _ _ h _) (gIS wq_824 wq_825 wq_39 wq_826) ⟨⟨by decide +kernel, by decide +kernel, by decide +kernel⟩, rfl, rfl, Nat.le_of_ble_eq_true rfl, Nat.le_of_ble_eq_true rfl⟩ rfl hl rfl (Nat.le_of_ble_eq_true rfl) dX8_advise_3 ⟨Nat.le_of_ble_eq_true rfl, Nat.le_of_ble_eq_true rfl⟩) (fun V10 H locs h hS => ?_)
  refine W.widen (k := 1) (n := 6) (Nat.le_of_ble_eq_true rfl) (Nat.le_of_ble_eq_true rfl) ?_
  refine lv_aload_n hC.1 hC.2.1 dX8_advise_6 rfl (lv_at hl 0 rfl) ?_
  obtain ⟨hk11, h⟩ := h
  refine gf_0_0 hC hS hk11 wq_168 dX8_advise_7 ?_
  obtain ⟨hk12, h⟩ := h
  refine gn_1_5 hC hS hk12 wq_144 dX8_advise_10 ?_
  obtain ⟨hk14, h⟩ := h
  refine g_calli0 hS (g_runV (n := 0) (rest := []) (As := []) (C := RX5) (T := TX5) (N := 3) hC hS hk14 rfl rfl (c_X5_size l G ks ad 0 V10 _ h _) (gI wq_602 wq_247 wq_248 wq_45 wq_249) rfl ⟨⟨by decide +kernel, by decide +kernel, by decide +kernel⟩, rfl, rfl, Nat.le_of_ble_eq_true rfl, Nat.le_of_ble_eq_true rfl⟩ rfl hl rfl (Nat.le_of_ble_eq_true rfl) dX8_advise_13 ⟨Nat.le_of_ble_eq_true rfl, Nat.le_of_ble_eq_true rfl⟩) (fun r15 V13 H locs h hS => ?_)
  refine lv_bipush (v := 8) hC.1 hC.2.1 dX8_advise_16 (by decide) ?_
  refine lv_icmp_lt (tgt := 31) hC.1 hC.2.1 dX8_advise_18 (by decide) (fun c18 => ?_) (fun c18 => ?_)
  · have h := h.1 c18
    refine lv_iconst (v := (-1)) hC.1 hC.2.1 dX8_advise_31 (by decide) ?_
    refine lv_istore_n (lv' := [(2, .int (-1)), (0, .ref (ad 0 0 0)), (1, .int a1)]) hC.1 hC.2.1 dX8_advise_32 rfl hl (by decide) rfl (fun ls hl => ?_)
    refine lv_aload_n hC.1 hC.2.1 dX8_advise_33 rfl (lv_at hl 1 rfl) ?_
    refine lv_iload_n hC.1 hC.2.1 dX8_advise_34 rfl (lv_at hl 2 rfl) ?_
    refine lv_iconst (v := (-1)) hC.1 hC.2.1 dX8_advise_35 (by decide) ?_
    refine g_calli0 hS (g_runV (n := 2) (rest := []) (As := [.int a1, .int (-1)]) (C := RX8) (T := TX8) (N := 2) hC hS hk11 rfl rfl (c_X8_loansAhead l G ks ad a1 (-1) V13 _ h _) (gI wq_959 wq_961 wq_22 wq_39 wq_962) rfl ⟨⟨by decide +kernel, by decide +kernel, by decide +kernel⟩, rfl, rfl, Nat.le_of_ble_eq_true rfl, Nat.le_of_ble_eq_true rfl⟩ rfl hl rfl (Nat.le_of_ble_eq_true rfl) dX8_advise_36 ⟨Nat.le_of_ble_eq_true rfl, Nat.le_of_ble_eq_true rfl⟩) (fun r17 V16 H locs h hS => ?_)
    refine lv_istore_n (lv' := [(3, .int r17), (2, .int (-1)), (0, .ref (ad 0 0 0)), (1, .int a1)]) hC.1 hC.2.1 dX8_advise_39 rfl hl (by decide) rfl (fun ls hl => ?_)
    refine lv_iconst (v := 0) hC.1 hC.2.1 dX8_advise_40 (by decide) ?_
    refine lv_istore (lv' := [(4, .int 0), (3, .int r17), (2, .int (-1)), (0, .ref (ad 0 0 0)), (1, .int a1)]) hC.1 hC.2.1 dX8_advise_41 hl (by decide) rfl (fun ls hl => ?_)
    exact kT43 _ _ _ _ _ _ _ _ h hS (lv_sub hl [3, 4, 2, 1, 0] rfl)
  · have h := h.2 c18
    exact g_throw (n := 3) hlf hC hS hl htab hlk (by decide +kernel) hat_3 hbt_3 hgd_3 wq_339 wq_51 sr_205 dX8_advise_21 dX8_advise_24 dX8_advise_25 dX8_advise_27 dX8_advise_30 ⟨Nat.le_of_ble_eq_true rfl, Nat.le_of_ble_eq_true rfl, Nat.le_of_ble_eq_true rfl, Nat.le_of_ble_eq_true rfl⟩ ⟨Nat.le_of_ble_eq_true rfl, Nat.le_of_ble_eq_true rfl⟩ h
