def wp_L_addHalt (ks : List KY) (V : VS) (post : Int32 → List KY × VS → Prop) : Prop := (0, 0, 0) ∈ ks ∧ (34, 0, 0) ∈ ks ∧ wp_X8_addHalt ks V (fun r u => (34, 0, 0) ∈ u.1 ∧ post 0 (u.1, vup u.2 34 0 0 0 0 r)) (fun n9 V1 => (n9 = 3 ∧ post 1 (ks, V1)))
set_option maxHeartbeats 4000000 in
set_option maxRecDepth 100000 in
theorem c_L_addHalt (l : Launch) (hlf : l.stackTraces = false) (G : GG) (ks : List KY) (ad : AD) (V : VS) (post : Int32 → List KY × VS → Prop) (h : wp_L_addHalt ks V post) (sz : Nat) : Met l yL_addHalt (wsH yL_addHalt cL_addHalt 3 (some .int) [(0, 8, 11, 13)]) ({ frames := 8, cells := 4, slots := 70, locals := 216 }) (mPc [.ref (ad 0 0 0), .ref (ad 34 0 0)] G ks ad V sz) (mQn post G ks ad sz) 4 70 (mA ks ad sz) := by
  refine g_metW (own := RL) (by decide) rfl (Nat.le_of_ble_eq_true rfl) ?_
  intro p e s m args below meth c ls hC hsz hr hlk hS hl htab
  have hl : lv_has ls 3 [(0, .ref (ad 0 0 0)), (1, .ref (ad 34 0 0))] := hl
  obtain ⟨hk0, hk34, h⟩ := h
  refine lv_aload_n hC.1 hC.2.1 dL_addHalt_0 rfl (lv_at hl 1 rfl) ?_
  refine lv_iconst (v := 0) hC.1 hC.2.1 dL_addHalt_1 (by decide) ?_
  refine lv_aload_n hC.1 hC.2.1 dL_addHalt_2 rfl (lv_at hl 0 rfl) ?_
  refine g_wcallN hS (g_xrunV (n := 0) (rest := [.int 0, .ref (ad 34 0 0)]) (As := []) (C := RX8) (T := TX8) (N := 2) hC hS hk0 rfl rfl (c_X8_addHalt l hlf G ks ad V _ _ h _) (gI wq_334 wq_335 wq_336 wq_39 wq_337) rfl ⟨⟨by decide +kernel, by decide +kernel, by decide +kernel⟩, rfl, rfl, Nat.le_of_ble_eq_true rfl, Nat.le_of_ble_eq_true rfl⟩ rfl hl rfl (Nat.le_of_ble_eq_true rfl) dL_addHalt_3 ⟨Nat.le_of_ble_eq_true rfl, Nat.le_of_ble_eq_true rfl⟩) (fun n9 V1 H locs ce q9 h hS hcell hv hcl => ?_) (fun r ks1 ad1 V1 H locs h hag hS => ?_)
  · obtain ⟨rfl, h⟩ := h
    refine vx_catch (own := RL) hC.2.2.2.1 [] (⟨0, 8, 11, 13⟩ : ExceptionTableEntry) [] (htab.trans rfl) (fun z hz => by cases hz) (by decide) (by decide) (hC.2.2.2.2.1 _ wq_333) (cast_3 hC) hcell hv hcl ?_
    refine W.widen (k := 4) (n := 70) (Nat.le_of_ble_eq_true rfl) (Nat.le_of_ble_eq_true rfl) ?_
    refine lv_astore_n (lv' := [(2, .ref q9), (0, .ref (ad 0 0 0)), (1, .ref (ad 34 0 0))]) hC.1 hC.2.1 dL_addHalt_11 rfl hl (by decide) rfl (fun ls hl => ?_)
    refine lv_iconst (v := 1) hC.1 hC.2.1 dL_addHalt_12 (by decide) ?_
    exact g_iretN hC hr hlk hS (fun _ _ _ _ _ => rfl) h dL_addHalt_13
  · refine W.widen (k := 4) (n := 70) (Nat.le_of_ble_eq_true rfl) (Nat.le_of_ble_eq_true rfl) ?_
    refine lv_i2l hC.1 hC.2.1 dL_addHalt_6 rfl ?_
    obtain ⟨hk34, h⟩ := h
    rw [← hag 34 0 0 (by decide) (by decide)]
    refine g_out hC hS hk34 dL_addHalt_7 (fun H locs hS => ?_)
    refine lv_goto (tgt := 14) hC.1 hC.2.1 dL_addHalt_8 (by decide) ?_
    refine lv_iconst (v := 0) hC.1 hC.2.1 dL_addHalt_14 (by decide) ?_
    exact g_iretN hC hr hlk hS hag h dL_addHalt_15
def wp_L_addLane (ks : List KY) (a1 : Int32) (a2 : Int32) (a3 : Int32) (a4 : Int32) (V : VS) (post : Int32 → List KY × VS → Prop) : Prop := (0, 0, 0) ∈ ks ∧ (34, 0, 0) ∈ ks ∧ wp_X8_addLane ks a1 a2 a3 a4 V (fun r u => (34, 0, 0) ∈ u.1 ∧ post 0 (u.1, vup u.2 34 0 0 0 0 r)) (fun n9 V1 => (n9 = 1 ∧ post 1 (ks, V1)) ∨ (n9 = 2 ∧ post 2 (ks, V1)) ∨ (n9 = 3 ∧ post 3 (ks, V1)))
set_option maxHeartbeats 4000000 in
set_option maxRecDepth 100000 in
theorem c_L_addLane (l : Launch) (hlf : l.stackTraces = false) (G : GG) (ks : List KY) (ad : AD) (a1 : Int32) (a2 : Int32) (a3 : Int32) (a4 : Int32) (V : VS) (post : Int32 → List KY × VS → Prop) (h : wp_L_addLane ks a1 a2 a3 a4 V post) (sz : Nat) : Met l yL_addLane (wsH yL_addLane cL_addLane 7 (some .int) [(0, 14, 17, 19), (0, 14, 21, 21), (0, 14, 25, 13)]) ({ frames := 9, cells := 6, slots := 88, locals := 220 }) (mPc [.ref (ad 0 0 0), .int a1, .int a2, .int a3, .int a4, .ref (ad 34 0 0)] G ks ad V sz) (mQn post G ks ad sz) 6 88 (mA ks ad sz) := by
  refine g_metW (own := RL) (by decide) rfl (Nat.le_of_ble_eq_true rfl) ?_
  intro p e s m args below meth c ls hC hsz hr hlk hS hl htab
  have hl : lv_has ls 7 [(0, .ref (ad 0 0 0)), (1, .int a1), (2, .int a2), (3, .int a3), (4, .int a4), (5, .ref (ad 34 0 0))] := hl
  obtain ⟨hk0, hk34, h⟩ := h
  refine lv_aload hC.1 hC.2.1 dL_addLane_0 (lv_at hl 5 rfl) ?_
  refine lv_iconst (v := 0) hC.1 hC.2.1 dL_addLane_2 (by decide) ?_
  refine lv_aload_n hC.1 hC.2.1 dL_addLane_3 rfl (lv_at hl 0 rfl) ?_
  refine lv_iload_n hC.1 hC.2.1 dL_addLane_4 rfl (lv_at hl 1 rfl) ?_
  refine lv_iload_n hC.1 hC.2.1 dL_addLane_5 rfl (lv_at hl 2 rfl) ?_
  refine lv_iload_n hC.1 hC.2.1 dL_addLane_6 rfl (lv_at hl 3 rfl) ?_
  refine lv_iload hC.1 hC.2.1 dL_addLane_7 (lv_at hl 4 rfl) ?_
  refine g_wcallN hS (g_xrunV (n := 4) (rest := [.int 0, .ref (ad 34 0 0)]) (As := [.int a1, .int a2, .int a3, .int a4]) (C := RX8) (T := TX8) (N := 2) hC hS hk0 rfl rfl (c_X8_addLane l hlf G ks ad a1 a2 a3 a4 V _ _ h _) (gI wq_489 wq_490 wq_491 wq_39 wq_492) rfl ⟨⟨by decide +kernel, by decide +kernel, by decide +kernel⟩, rfl, rfl, Nat.le_of_ble_eq_true rfl, Nat.le_of_ble_eq_true rfl⟩ rfl hl rfl (Nat.le_of_ble_eq_true rfl) dL_addLane_9 ⟨Nat.le_of_ble_eq_true rfl, Nat.le_of_ble_eq_true rfl⟩) (fun n9 V1 H locs ce q9 h hS hcell hv hcl => ?_) (fun r ks1 ad1 V1 H locs h hag hS => ?_)
  · rcases h with ⟨rfl, h⟩ | ⟨rfl, h⟩ | ⟨rfl, h⟩
    · refine vx_catch (own := RL) hC.2.2.2.1 [] (⟨0, 14, 17, 19⟩ : ExceptionTableEntry) [(⟨0, 14, 21, 21⟩ : ExceptionTableEntry), (⟨0, 14, 25, 13⟩ : ExceptionTableEntry)] (htab.trans rfl) (fun z hz => by cases hz) (by decide) (by decide) (hC.2.2.2.2.1 _ wq_487) (cast_1 hC) hcell hv hcl ?_
      refine W.widen (k := 6) (n := 88) (Nat.le_of_ble_eq_true rfl) (Nat.le_of_ble_eq_true rfl) ?_
      refine lv_astore (lv' := [(6, .ref q9), (0, .ref (ad 0 0 0)), (1, .int a1), (2, .int a2), (3, .int a3), (4, .int a4), (5, .ref (ad 34 0 0))]) hC.1 hC.2.1 dL_addLane_17 hl (by decide) rfl (fun ls hl => ?_)
      refine lv_iconst (v := 1) hC.1 hC.2.1 dL_addLane_19 (by decide) ?_
      exact g_iretN hC hr hlk hS (fun _ _ _ _ _ => rfl) h dL_addLane_20
    · refine vx_catch (own := RL) hC.2.2.2.1 [(⟨0, 14, 17, 19⟩ : ExceptionTableEntry)] (⟨0, 14, 21, 21⟩ : ExceptionTableEntry) [(⟨0, 14, 25, 13⟩ : ExceptionTableEntry)] (htab.trans rfl) (fun z hz => Or.inr (by rw [List.mem_singleton.mp hz]; exact ⟨by decide, _, hC.2.2.2.2.1 _ wq_487, nc_21 hC⟩)) (by decide) (by decide) (hC.2.2.2.2.1 _ wq_488) (cast_2 hC) hcell hv hcl ?_
      refine W.widen (k := 6) (n := 88) (Nat.le_of_ble_eq_true rfl) (Nat.le_of_ble_eq_true rfl) ?_
      refine lv_astore (lv' := [(6, .ref q9), (0, .ref (ad 0 0 0)), (1, .int a1), (2, .int a2), (3, .int a3), (4, .int a4), (5, .ref (ad 34 0 0))]) hC.1 hC.2.1 dL_addLane_21 hl (by decide) rfl (fun ls hl => ?_)
      refine lv_iconst (v := 2) hC.1 hC.2.1 dL_addLane_23 (by decide) ?_
      exact g_iretN hC hr hlk hS (fun _ _ _ _ _ => rfl) h dL_addLane_24
    · refine vx_catch (own := RL) hC.2.2.2.1 [(⟨0, 14, 17, 19⟩ : ExceptionTableEntry), (⟨0, 14, 21, 21⟩ : ExceptionTableEntry)] (⟨0, 14, 25, 13⟩ : ExceptionTableEntry) [] (htab.trans rfl) (fun z hz => Or.inr (by rcases List.mem_cons.mp hz with hz | hz; rw [hz]; exact ⟨by decide, _, hC.2.2.2.2.1 _ wq_487, nc_31 hC⟩; rw [List.mem_singleton.mp hz]; exact ⟨by decide, _, hC.2.2.2.2.1 _ wq_488, nc_32 hC⟩)) (by decide) (by decide) (hC.2.2.2.2.1 _ wq_333) (cast_3 hC) hcell hv hcl ?_
      refine W.widen (k := 6) (n := 88) (Nat.le_of_ble_eq_true rfl) (Nat.le_of_ble_eq_true rfl) ?_
      refine lv_astore (lv' := [(6, .ref q9), (0, .ref (ad 0 0 0)), (1, .int a1), (2, .int a2), (3, .int a3), (4, .int a4), (5, .ref (ad 34 0 0))]) hC.1 hC.2.1 dL_addLane_25 hl (by decide) rfl (fun ls hl => ?_)
      refine lv_iconst (v := 3) hC.1 hC.2.1 dL_addLane_27 (by decide) ?_
      exact g_iretN hC hr hlk hS (fun _ _ _ _ _ => rfl) h dL_addLane_28
  · refine W.widen (k := 6) (n := 88) (Nat.le_of_ble_eq_true rfl) (Nat.le_of_ble_eq_true rfl) ?_
    refine lv_i2l hC.1 hC.2.1 dL_addLane_12 rfl ?_
    obtain ⟨hk34, h⟩ := h
    rw [← hag 34 0 0 (by decide) (by decide)]
    refine g_out hC hS hk34 dL_addLane_13 (fun H locs hS => ?_)
    refine lv_goto (tgt := 29) hC.1 hC.2.1 dL_addLane_14 (by decide) ?_
    refine lv_iconst (v := 0) hC.1 hC.2.1 dL_addLane_29 (by decide) ?_
    exact g_iretN hC hr hlk hS hag h dL_addLane_30
def wp_L_setRain (ks : List KY) (a1 : Int32) (a2 : Int32) (V : VS) (post : Int32 → VS → Prop) : Prop := (0, 0, 0) ∈ ks ∧ (34, 0, 0) ∈ ks ∧ wp_X8_setRain ks a1 a2 V (fun r V1 => post 0 (vup V1 34 0 0 0 0 r)) (fun n9 V1 => (n9 = 1 ∧ post 1 V1) ∨ (n9 = 2 ∧ post 2 V1))
set_option maxHeartbeats 4000000 in
set_option maxRecDepth 100000 in
theorem c_L_setRain (l : Launch) (hlf : l.stackTraces = false) (G : GG) (ks : List KY) (ad : AD) (a1 : Int32) (a2 : Int32) (V : VS) (post : Int32 → VS → Prop) (h : wp_L_setRain ks a1 a2 V post) (sz : Nat) : Met l yL_setRain (wsH yL_setRain cL_setRain 5 (some .int) [(0, 10, 13, 19), (0, 10, 17, 21)]) ({ frames := 8, cells := 2, slots := 12, locals := 125 }) (mPc [.ref (ad 0 0 0), .int a1, .int a2, .ref (ad 34 0 0)] G ks ad V sz) (mQi post G ks ad sz) 2 12 (mA ks ad sz) := by
  refine g_metW (own := RL) (by decide) rfl (Nat.le_of_ble_eq_true rfl) ?_
  intro p e s m args below meth c ls hC hsz hr hlk hS hl htab
  have hl : lv_has ls 5 [(0, .ref (ad 0 0 0)), (1, .int a1), (2, .int a2), (3, .ref (ad 34 0 0))] := hl
  obtain ⟨hk0, hk34, h⟩ := h
  refine lv_aload_n hC.1 hC.2.1 dL_setRain_0 rfl (lv_at hl 3 rfl) ?_
  refine lv_iconst (v := 0) hC.1 hC.2.1 dL_setRain_1 (by decide) ?_
  refine lv_aload_n hC.1 hC.2.1 dL_setRain_2 rfl (lv_at hl 0 rfl) ?_
  refine lv_iload_n hC.1 hC.2.1 dL_setRain_3 rfl (lv_at hl 1 rfl) ?_
  refine lv_iload_n hC.1 hC.2.1 dL_setRain_4 rfl (lv_at hl 2 rfl) ?_
  refine g_wcall hS (g_xrunV (n := 2) (rest := [.int 0, .ref (ad 34 0 0)]) (As := [.int a1, .int a2]) (C := RX8) (T := TX8) (N := 2) hC hS hk0 rfl rfl (c_X8_setRain l hlf G ks ad a1 a2 V _ _ h _) (gI wq_570 wq_571 wq_572 wq_39 wq_573) rfl ⟨⟨by decide +kernel, by decide +kernel, by decide +kernel⟩, rfl, rfl, Nat.le_of_ble_eq_true rfl, Nat.le_of_ble_eq_true rfl⟩ rfl hl rfl (Nat.le_of_ble_eq_true rfl) dL_setRain_5 ⟨Nat.le_of_ble_eq_true rfl, Nat.le_of_ble_eq_true rfl⟩) (fun n9 V1 H locs ce q9 h hS hcell hv hcl => ?_) (fun r V1 H locs h hS => ?_)
  · rcases h with ⟨rfl, h⟩ | ⟨rfl, h⟩
    · refine vx_catch (own := RL) hC.2.2.2.1 [] (⟨0, 10, 13, 19⟩ : ExceptionTableEntry) [(⟨0, 10, 17, 21⟩ : ExceptionTableEntry)] (htab.trans rfl) (fun z hz => by cases hz) (by decide) (by decide) (hC.2.2.2.2.1 _ wq_487) (cast_1 hC) hcell hv hcl ?_
      refine W.widen (k := 2) (n := 12) (Nat.le_of_ble_eq_true rfl) (Nat.le_of_ble_eq_true rfl) ?_
      refine lv_astore (lv' := [(4, .ref q9), (0, .ref (ad 0 0 0)), (1, .int a1), (2, .int a2), (3, .ref (ad 34 0 0))]) hC.1 hC.2.1 dL_setRain_13 hl (by decide) rfl (fun ls hl => ?_)
      refine lv_iconst (v := 1) hC.1 hC.2.1 dL_setRain_15 (by decide) ?_
      exact g_iret hC hr hlk hS h dL_setRain_16
    · refine vx_catch (own := RL) hC.2.2.2.1 [(⟨0, 10, 13, 19⟩ : ExceptionTableEntry)] (⟨0, 10, 17, 21⟩ : ExceptionTableEntry) [] (htab.trans rfl) (fun z hz => Or.inr (by rw [List.mem_singleton.mp hz]; exact ⟨by decide, _, hC.2.2.2.2.1 _ wq_487, nc_21 hC⟩)) (by decide) (by decide) (hC.2.2.2.2.1 _ wq_488) (cast_2 hC) hcell hv hcl ?_
      refine W.widen (k := 2) (n := 12) (Nat.le_of_ble_eq_true rfl) (Nat.le_of_ble_eq_true rfl) ?_
      refine lv_astore (lv' := [(4, .ref q9), (0, .ref (ad 0 0 0)), (1, .int a1), (2, .int a2), (3, .ref (ad 34 0 0))]) hC.1 hC.2.1 dL_setRain_17 hl (by decide) rfl (fun ls hl => ?_)
      refine lv_iconst (v := 2) hC.1 hC.2.1 dL_setRain_19 (by decide) ?_
      exact g_iret hC hr hlk hS h dL_setRain_20
  · refine W.widen (k := 2) (n := 12) (Nat.le_of_ble_eq_true rfl) (Nat.le_of_ble_eq_true rfl) ?_
    refine lv_i2l hC.1 hC.2.1 dL_setRain_8 rfl ?_
    refine g_out hC hS hk34 dL_setRain_9 (fun H locs hS => ?_)
    refine lv_goto (tgt := 21) hC.1 hC.2.1 dL_setRain_10 (by decide) ?_
    refine lv_iconst (v := 0) hC.1 hC.2.1 dL_setRain_21 (by decide) ?_
    exact g_iret hC hr hlk hS h dL_setRain_22
def wp_L_setRound (ks : List KY) (a1 : Int32) (a2 : Int32) (V : VS) (post : Int32 → VS → Prop) : Prop := (0, 0, 0) ∈ ks ∧ (34, 0, 0) ∈ ks ∧ wp_X8_setRound ks a1 a2 V (fun r V1 => post 0 (vup V1 34 0 0 0 0 r)) (fun n9 V1 => (n9 = 2 ∧ post 1 V1))
set_option maxHeartbeats 4000000 in
set_option maxRecDepth 100000 in
theorem c_L_setRound (l : Launch) (hlf : l.stackTraces = false) (G : GG) (ks : List KY) (ad : AD) (a1 : Int32) (a2 : Int32) (V : VS) (post : Int32 → VS → Prop) (h : wp_L_setRound ks a1 a2 V post) (sz : Nat) : Met l yL_setRound (wsH yL_setRound cL_setRound 5 (some .int) [(0, 10, 13, 21)]) ({ frames := 7, cells := 1, slots := 6, locals := 104 }) (mPc [.ref (ad 0 0 0), .int a1, .int a2, .ref (ad 34 0 0)] G ks ad V sz) (mQi post G ks ad sz) 1 6 (mA ks ad sz) := by
  refine g_metW (own := RL) (by decide) rfl (Nat.le_of_ble_eq_true rfl) ?_
  intro p e s m args below meth c ls hC hsz hr hlk hS hl htab
  have hl : lv_has ls 5 [(0, .ref (ad 0 0 0)), (1, .int a1), (2, .int a2), (3, .ref (ad 34 0 0))] := hl
  obtain ⟨hk0, hk34, h⟩ := h
  refine lv_aload_n hC.1 hC.2.1 dL_setRound_0 rfl (lv_at hl 3 rfl) ?_
  refine lv_iconst (v := 0) hC.1 hC.2.1 dL_setRound_1 (by decide) ?_
  refine lv_aload_n hC.1 hC.2.1 dL_setRound_2 rfl (lv_at hl 0 rfl) ?_
  refine lv_iload_n hC.1 hC.2.1 dL_setRound_3 rfl (lv_at hl 1 rfl) ?_
  refine lv_iload_n hC.1 hC.2.1 dL_setRound_4 rfl (lv_at hl 2 rfl) ?_
  refine g_wcall hS (g_xrunV (n := 2) (rest := [.int 0, .ref (ad 34 0 0)]) (As := [.int a1, .int a2]) (C := RX8) (T := TX8) (N := 2) hC hS hk0 rfl rfl (c_X8_setRound l hlf G ks ad a1 a2 V _ _ h _) (gI wq_582 wq_583 wq_584 wq_39 wq_585) rfl ⟨⟨by decide +kernel, by decide +kernel, by decide +kernel⟩, rfl, rfl, Nat.le_of_ble_eq_true rfl, Nat.le_of_ble_eq_true rfl⟩ rfl hl rfl (Nat.le_of_ble_eq_true rfl) dL_setRound_5 ⟨Nat.le_of_ble_eq_true rfl, Nat.le_of_ble_eq_true rfl⟩) (fun n9 V1 H locs ce q9 h hS hcell hv hcl => ?_) (fun r V1 H locs h hS => ?_)
  · obtain ⟨rfl, h⟩ := h
    refine vx_catch (own := RL) hC.2.2.2.1 [] (⟨0, 10, 13, 21⟩ : ExceptionTableEntry) [] (htab.trans rfl) (fun z hz => by cases hz) (by decide) (by decide) (hC.2.2.2.2.1 _ wq_488) (cast_2 hC) hcell hv hcl ?_
    refine W.widen (k := 1) (n := 6) (Nat.le_of_ble_eq_true rfl) (Nat.le_of_ble_eq_true rfl) ?_
    refine lv_astore (lv' := [(4, .ref q9), (0, .ref (ad 0 0 0)), (1, .int a1), (2, .int a2), (3, .ref (ad 34 0 0))]) hC.1 hC.2.1 dL_setRound_13 hl (by decide) rfl (fun ls hl => ?_)
    refine lv_iconst (v := 1) hC.1 hC.2.1 dL_setRound_15 (by decide) ?_
    exact g_iret hC hr hlk hS h dL_setRound_16
  · refine W.widen (k := 1) (n := 6) (Nat.le_of_ble_eq_true rfl) (Nat.le_of_ble_eq_true rfl) ?_
    refine lv_i2l hC.1 hC.2.1 dL_setRound_8 rfl ?_
    refine g_out hC hS hk34 dL_setRound_9 (fun H locs hS => ?_)
    refine lv_goto (tgt := 17) hC.1 hC.2.1 dL_setRound_10 (by decide) ?_
    refine lv_iconst (v := 0) hC.1 hC.2.1 dL_setRound_17 (by decide) ?_
    exact g_iret hC hr hlk hS h dL_setRound_18
def wp_L_halt (ks : List KY) (a1 : Int32) (a2 : Int32) (V : VS) (post : Int32 → VS → Prop) : Prop := (0, 0, 0) ∈ ks ∧ (34, 0, 0) ∈ ks ∧ wp_X8_halt ks a1 a2 V (fun r V1 => post 0 (vup V1 34 0 0 0 0 r)) (fun n9 V1 => (n9 = 1 ∧ post 1 V1))
set_option maxHeartbeats 4000000 in
set_option maxRecDepth 100000 in
theorem c_L_halt (l : Launch) (hlf : l.stackTraces = false) (G : GG) (ks : List KY) (ad : AD) (a1 : Int32) (a2 : Int32) (V : VS) (post : Int32 → VS → Prop) (h : wp_L_halt ks a1 a2 V post) (sz : Nat) : Met l yL_halt (wsH yL_halt cL_halt 5 (some .int) [(0, 10, 13, 19)]) ({ frames := 9, cells := 2, slots := 12, locals := 146 }) (mPc [.ref (ad 0 0 0), .int a1, .int a2, .ref (ad 34 0 0)] G ks ad V sz) (mQi post G ks ad sz) 2 12 (mA ks ad sz) := by
  refine g_metW (own := RL) (by decide) rfl (Nat.le_of_ble_eq_true rfl) ?_
  intro p e s m args below meth c ls hC hsz hr hlk hS hl htab
  have hl : lv_has ls 5 [(0, .ref (ad 0 0 0)), (1, .int a1), (2, .int a2), (3, .ref (ad 34 0 0))] := hl
  obtain ⟨hk0, hk34, h⟩ := h
  refine lv_aload_n hC.1 hC.2.1 dL_halt_0 rfl (lv_at hl 3 rfl) ?_
  refine lv_iconst (v := 0) hC.1 hC.2.1 dL_halt_1 (by decide) ?_
  refine lv_aload_n hC.1 hC.2.1 dL_halt_2 rfl (lv_at hl 0 rfl) ?_
  refine lv_iload_n hC.1 hC.2.1 dL_halt_3 rfl (lv_at hl 1 rfl) ?_
  refine lv_iload_n hC.1 hC.2.1 dL_halt_4 rfl (lv_at hl 2 rfl) ?_
  refine g_wcall hS (g_xrunV (n := 2) (rest := [.int 0, .ref (ad 34 0 0)]) (As := [.int a1, .int a2]) (C := RX8) (T := TX8) (N := 2) hC hS hk0 rfl rfl (c_X8_halt l hlf G ks ad a1 a2 V _ _ h _) (gI wq_606 wq_607 wq_608 wq_39 wq_609) rfl ⟨⟨by decide +kernel, by decide +kernel, by decide +kernel⟩, rfl, rfl, Nat.le_of_ble_eq_true rfl, Nat.le_of_ble_eq_true rfl⟩ rfl hl rfl (Nat.le_of_ble_eq_true rfl) dL_halt_5 ⟨Nat.le_of_ble_eq_true rfl, Nat.le_of_ble_eq_true rfl⟩) (fun n9 V1 H locs ce q9 h hS hcell hv hcl => ?_) (fun r V1 H locs h hS => ?_)
  · obtain ⟨rfl, h⟩ := h
    refine vx_catch (own := RL) hC.2.2.2.1 [] (⟨0, 10, 13, 19⟩ : ExceptionTableEntry) [] (htab.trans rfl) (fun z hz => by cases hz) (by decide) (by decide) (hC.2.2.2.2.1 _ wq_487) (cast_1 hC) hcell hv hcl ?_
    refine W.widen (k := 2) (n := 12) (Nat.le_of_ble_eq_true rfl) (Nat.le_of_ble_eq_true rfl) ?_
    refine lv_astore (lv' := [(4, .ref q9), (0, .ref (ad 0 0 0)), (1, .int a1), (2, .int a2), (3, .ref (ad 34 0 0))]) hC.1 hC.2.1 dL_halt_13 hl (by decide) rfl (fun ls hl => ?_)
    refine lv_iconst (v := 1) hC.1 hC.2.1 dL_halt_15 (by decide) ?_
    exact g_iret hC hr hlk hS h dL_halt_16
  · refine W.widen (k := 2) (n := 12) (Nat.le_of_ble_eq_true rfl) (Nat.le_of_ble_eq_true rfl) ?_
    refine lv_i2l hC.1 hC.2.1 dL_halt_8 rfl ?_
    refine g_out hC hS hk34 dL_halt_9 (fun H locs hS => ?_)
    refine lv_goto (tgt := 17) hC.1 hC.2.1 dL_halt_10 (by decide) ?_
    refine lv_iconst (v := 0) hC.1 hC.2.1 dL_halt_17 (by decide) ?_
    exact g_iret hC hr hlk hS h dL_halt_18
def wp_L_lane (ks : List KY) (a1 : Int32) (a2 : Int32) (V : VS) (post : Int32 → VS → Prop) : Prop := (0, 0, 0) ∈ ks ∧ (34, 0, 0) ∈ ks ∧ wp_X8_lane ks a1 a2 V (fun r V1 => post 0 (vup V1 34 0 0 0 0 r)) (fun n9 V1 => (n9 = 1 ∧ post 1 V1))
set_option maxHeartbeats 4000000 in
set_option maxRecDepth 100000 in
theorem c_L_lane (l : Launch) (hlf : l.stackTraces = false) (G : GG) (ks : List KY) (ad : AD) (a1 : Int32) (a2 : Int32) (V : VS) (post : Int32 → VS → Prop) (h : wp_L_lane ks a1 a2 V post) (sz : Nat) : Met l yL_lane (wsH yL_lane cL_lane 5 (some .int) [(0, 10, 13, 19)]) ({ frames := 8, cells := 2, slots := 12, locals := 125 }) (mPc [.ref (ad 0 0 0), .int a1, .int a2, .ref (ad 34 0 0)] G ks ad V sz) (mQi post G ks ad sz) 2 12 (mA ks ad sz) := by
  refine g_metW (own := RL) (by decide) rfl (Nat.le_of_ble_eq_true rfl) ?_
  intro p e s m args below meth c ls hC hsz hr hlk hS hl htab
  have hl : lv_has ls 5 [(0, .ref (ad 0 0 0)), (1, .int a1), (2, .int a2), (3, .ref (ad 34 0 0))] := hl
  obtain ⟨hk0, hk34, h⟩ := h
  refine lv_aload_n hC.1 hC.2.1 dL_lane_0 rfl (lv_at hl 3 rfl) ?_
  refine lv_iconst (v := 0) hC.1 hC.2.1 dL_lane_1 (by decide) ?_
  refine lv_aload_n hC.1 hC.2.1 dL_lane_2 rfl (lv_at hl 0 rfl) ?_
  refine lv_iload_n hC.1 hC.2.1 dL_lane_3 rfl (lv_at hl 1 rfl) ?_
  refine lv_iload_n hC.1 hC.2.1 dL_lane_4 rfl (lv_at hl 2 rfl) ?_
  refine g_wcall hS (g_xrunV (n := 2) (rest := [.int 0, .ref (ad 34 0 0)]) (As := [.int a1, .int a2]) (C := RX8) (T := TX8) (N := 2) hC hS hk0 rfl rfl (c_X8_lane l hlf G ks ad a1 a2 V _ _ h _) (gI wq_614 wq_615 wq_616 wq_39 wq_617) rfl ⟨⟨by decide +kernel, by decide +kernel, by decide +kernel⟩, rfl, rfl, Nat.le_of_ble_eq_true rfl, Nat.le_of_ble_eq_true rfl⟩ rfl hl rfl (Nat.le_of_ble_eq_true rfl) dL_lane_5 ⟨Nat.le_of_ble_eq_true rfl, Nat.le_of_ble_eq_true rfl⟩) (fun n9 V1 H locs ce q9 h hS hcell hv hcl => ?_) (fun r V1 H locs h hS => ?_)
  · obtain ⟨rfl, h⟩ := h
    refine vx_catch (own := RL) hC.2.2.2.1 [] (⟨0, 10, 13, 19⟩ : ExceptionTableEntry) [] (htab.trans rfl) (fun z hz => by cases hz) (by decide) (by decide) (hC.2.2.2.2.1 _ wq_487) (cast_1 hC) hcell hv hcl ?_
    refine W.widen (k := 2) (n := 12) (Nat.le_of_ble_eq_true rfl) (Nat.le_of_ble_eq_true rfl) ?_
    refine lv_astore (lv' := [(4, .ref q9), (0, .ref (ad 0 0 0)), (1, .int a1), (2, .int a2), (3, .ref (ad 34 0 0))]) hC.1 hC.2.1 dL_lane_13 hl (by decide) rfl (fun ls hl => ?_)
    refine lv_iconst (v := 1) hC.1 hC.2.1 dL_lane_15 (by decide) ?_
    exact g_iret hC hr hlk hS h dL_lane_16
  · refine W.widen (k := 2) (n := 12) (Nat.le_of_ble_eq_true rfl) (Nat.le_of_ble_eq_true rfl) ?_
    refine lv_i2l hC.1 hC.2.1 dL_lane_8 rfl ?_
    refine g_out hC hS hk34 dL_lane_9 (fun H locs hS => ?_)
    refine lv_goto (tgt := 17) hC.1 hC.2.1 dL_lane_10 (by decide) ?_
    refine lv_iconst (v := 0) hC.1 hC.2.1 dL_lane_17 (by decide) ?_
    exact g_iret hC hr hlk hS h dL_lane_18
def wp_L_way (ks : List KY) (a1 : Int32) (a2 : Int32) (V : VS) (post : Int32 → VS → Prop) : Prop := (0, 0, 0) ∈ ks ∧ (34, 0, 0) ∈ ks ∧ wp_X8_way ks a1 a2 V (fun r V1 => post 0 (vup V1 34 0 0 0 0 r)) (fun n9 V1 => (n9 = 1 ∧ post 1 V1))
set_option maxHeartbeats 4000000 in
set_option maxRecDepth 100000 in
theorem c_L_way (l : Launch) (hlf : l.stackTraces = false) (G : GG) (ks : List KY) (ad : AD) (a1 : Int32) (a2 : Int32) (V : VS) (post : Int32 → VS → Prop) (h : wp_L_way ks a1 a2 V post) (sz : Nat) : Met l yL_way (wsH yL_way cL_way 5 (some .int) [(0, 10, 13, 19)]) ({ frames := 9, cells := 2, slots := 12, locals := 146 }) (mPc [.ref (ad 0 0 0), .int a1, .int a2, .ref (ad 34 0 0)] G ks ad V sz) (mQi post G ks ad sz) 2 12 (mA ks ad sz) := by
  refine g_metW (own := RL) (by decide) rfl (Nat.le_of_ble_eq_true rfl) ?_
  intro p e s m args below meth c ls hC hsz hr hlk hS hl htab
  have hl : lv_has ls 5 [(0, .ref (ad 0 0 0)), (1, .int a1), (2, .int a2), (3, .ref (ad 34 0 0))] := hl
  obtain ⟨hk0, hk34, h⟩ := h
  refine lv_aload_n hC.1 hC.2.1 dL_way_0 rfl (lv_at hl 3 rfl) ?_
  refine lv_iconst (v := 0) hC.1 hC.2.1 dL_way_1 (by decide) ?_
  refine lv_aload_n hC.1 hC.2.1 dL_way_2 rfl (lv_at hl 0 rfl) ?_
  refine lv_iload_n hC.1 hC.2.1 dL_way_3 rfl (lv_at hl 1 rfl) ?_
  refine lv_iload_n hC.1 hC.2.1 dL_way_4 rfl (lv_at hl 2 rfl) ?_
  refine g_wcall hS (g_xrunV (n := 2) (rest := [.int 0, .ref (ad 34 0 0)]) (As := [.int a1, .int a2]) (C := RX8) (T := TX8) (N := 2) hC hS hk0 rfl rfl (c_X8_way l hlf G ks ad a1 a2 V _ _ h _) (gI wq_622 wq_623 wq_624 wq_39 wq_625) rfl ⟨⟨by decide +kernel, by decide +kernel, by decide +kernel⟩, rfl, rfl, Nat.le_of_ble_eq_true rfl, Nat.le_of_ble_eq_true rfl⟩ rfl hl rfl (Nat.le_of_ble_eq_true rfl) dL_way_5 ⟨Nat.le_of_ble_eq_true rfl, Nat.le_of_ble_eq_true rfl⟩) (fun n9 V1 H locs ce q9 h hS hcell hv hcl => ?_) (fun r V1 H locs h hS => ?_)
  · obtain ⟨rfl, h⟩ := h
    refine vx_catch (own := RL) hC.2.2.2.1 [] (⟨0, 10, 13, 19⟩ : ExceptionTableEntry) [] (htab.trans rfl) (fun z hz => by cases hz) (by decide) (by decide) (hC.2.2.2.2.1 _ wq_487) (cast_1 hC) hcell hv hcl ?_
    refine W.widen (k := 2) (n := 12) (Nat.le_of_ble_eq_true rfl) (Nat.le_of_ble_eq_true rfl) ?_
    refine lv_astore (lv' := [(4, .ref q9), (0, .ref (ad 0 0 0)), (1, .int a1), (2, .int a2), (3, .ref (ad 34 0 0))]) hC.1 hC.2.1 dL_way_13 hl (by decide) rfl (fun ls hl => ?_)
    refine lv_iconst (v := 1) hC.1 hC.2.1 dL_way_15 (by decide) ?_
    exact g_iret hC hr hlk hS h dL_way_16
  · refine W.widen (k := 2) (n := 12) (Nat.le_of_ble_eq_true rfl) (Nat.le_of_ble_eq_true rfl) ?_
    refine lv_i2l hC.1 hC.2.1 dL_way_8 rfl ?_
    refine g_out hC hS hk34 dL_way_9 (fun H locs hS => ?_)
    refine lv_goto (tgt := 17) hC.1 hC.2.1 dL_way_10 (by decide) ?_
    refine lv_iconst (v := 0) hC.1 hC.2.1 dL_way_17 (by decide) ?_
    exact g_iret hC hr hlk hS h dL_way_18
def wp_L_addBook (ks : List KY) (a1 : Int32) (V : VS) (post : Int32 → List KY × VS → Prop) : Prop := (0, 0, 0) ∈ ks ∧ (34, 0, 0) ∈ ks ∧ wp_X8_addBook ks a1 V (fun r u => (34, 0, 0) ∈ u.1 ∧ post 0 (u.1, vup u.2 34 0 0 0 0 r)) (fun n9 V1 => (n9 = 2 ∧ post 1 (ks, V1)) ∨ (n9 = 3 ∧ post 2 (ks, V1)))
set_option maxHeartbeats 4000000 in
set_option maxRecDepth 100000 in
theorem c_L_addBook (l : Launch) (hlf : l.stackTraces = false) (G : GG) (ks : List KY) (ad : AD) (a1 : Int32) (V : VS) (post : Int32 → List KY × VS → Prop) (h : wp_L_addBook ks a1 V post) (sz : Nat) : Met l yL_addBook (wsH yL_addBook cL_addBook 4 (some .int) [(0, 9, 12, 21), (0, 9, 15, 13)]) ({ frames := 8, cells := 8, slots := 102, locals := 217 }) (mPc [.ref (ad 0 0 0), .int a1, .ref (ad 34 0 0)] G ks ad V sz) (mQn post G ks ad sz) 8 102 (mA ks ad sz) := by
  refine g_metW (own := RL) (by decide) rfl (Nat.le_of_ble_eq_true rfl) ?_
  intro p e s m args below meth c ls hC hsz hr hlk hS hl htab
  have hl : lv_has ls 4 [(0, .ref (ad 0 0 0)), (1, .int a1), (2, .ref (ad 34 0 0))] := hl
  obtain ⟨hk0, hk34, h⟩ := h
  refine lv_aload_n hC.1 hC.2.1 dL_addBook_0 rfl (lv_at hl 2 rfl) ?_
  refine lv_iconst (v := 0) hC.1 hC.2.1 dL_addBook_1 (by decide) ?_
  refine lv_aload_n hC.1 hC.2.1 dL_addBook_2 rfl (lv_at hl 0 rfl) ?_
  refine lv_iload_n hC.1 hC.2.1 dL_addBook_3 rfl (lv_at hl 1 rfl) ?_
  refine g_wcallN hS (g_xrunV (n := 1) (rest := [.int 0, .ref (ad 34 0 0)]) (As := [.int a1]) (C := RX8) (T := TX8) (N := 2) hC hS hk0 rfl rfl (c_X8_addBook l hlf G ks ad a1 V _ _ h _) (gI wq_653 wq_654 wq_655 wq_39 wq_656) rfl ⟨⟨by decide +kernel, by decide +kernel, by decide +kernel⟩, rfl, rfl, Nat.le_of_ble_eq_true rfl, Nat.le_of_ble_eq_true rfl⟩ rfl hl rfl (Nat.le_of_ble_eq_true rfl) dL_addBook_4 ⟨Nat.le_of_ble_eq_true rfl, Nat.le_of_ble_eq_true rfl⟩) (fun n9 V1 H locs ce q9 h hS hcell hv hcl => ?_) (fun r ks1 ad1 V1 H locs h hag hS => ?_)
  · rcases h with ⟨rfl, h⟩ | ⟨rfl, h⟩
    · refine vx_catch (own := RL) hC.2.2.2.1 [] (⟨0, 9, 12, 21⟩ : ExceptionTableEntry) [(⟨0, 9, 15, 13⟩ : ExceptionTableEntry)] (htab.trans rfl) (fun z hz => by cases hz) (by decide) (by decide) (hC.2.2.2.2.1 _ wq_488) (cast_2 hC) hcell hv hcl ?_
      refine W.widen (k := 8) (n := 102) (Nat.le_of_ble_eq_true rfl) (Nat.le_of_ble_eq_true rfl) ?_
      refine lv_astore_n (lv' := [(3, .ref q9), (0, .ref (ad 0 0 0)), (1, .int a1), (2, .ref (ad 34 0 0))]) hC.1 hC.2.1 dL_addBook_12 rfl hl (by decide) rfl (fun ls hl => ?_)
      refine lv_iconst (v := 1) hC.1 hC.2.1 dL_addBook_13 (by decide) ?_
      exact g_iretN hC hr hlk hS (fun _ _ _ _ _ => rfl) h dL_addBook_14
    · refine vx_catch (own := RL) hC.2.2.2.1 [(⟨0, 9, 12, 21⟩ : ExceptionTableEntry)] (⟨0, 9, 15, 13⟩ : ExceptionTableEntry) [] (htab.trans rfl) (fun z hz => Or.inr (by rw [List.mem_singleton.mp hz]; exact ⟨by decide, _, hC.2.2.2.2.1 _ wq_488, nc_32 hC⟩)) (by decide) (by decide) (hC.2.2.2.2.1 _ wq_333) (cast_3 hC) hcell hv hcl ?_
      refine W.widen (k := 8) (n := 102) (Nat.le_of_ble_eq_true rfl) (Nat.le_of_ble_eq_true rfl) ?_
      refine lv_astore_n (lv' := [(3, .ref q9), (0, .ref (ad 0 0 0)), (1, .int a1), (2, .ref (ad 34 0 0))]) hC.1 hC.2.1 dL_addBook_15 rfl hl (by decide) rfl (fun ls hl => ?_)
      refine lv_iconst (v := 2) hC.1 hC.2.1 dL_addBook_16 (by decide) ?_
      exact g_iretN hC hr hlk hS (fun _ _ _ _ _ => rfl) h dL_addBook_17
  · refine W.widen (k := 8) (n := 102) (Nat.le_of_ble_eq_true rfl) (Nat.le_of_ble_eq_true rfl) ?_
    refine lv_i2l hC.1 hC.2.1 dL_addBook_7 rfl ?_
    obtain ⟨hk34, h⟩ := h
    rw [← hag 34 0 0 (by decide) (by decide)]
    refine g_out hC hS hk34 dL_addBook_8 (fun H locs hS => ?_)
    refine lv_goto (tgt := 18) hC.1 hC.2.1 dL_addBook_9 (by decide) ?_
    refine lv_iconst (v := 0) hC.1 hC.2.1 dL_addBook_18 (by decide) ?_
    exact g_iretN hC hr hlk hS hag h dL_addBook_19
def wp_L_addReader (ks : List KY) (a1 : Int32) (a2 : Int32) (a3 : Int32) (V : VS) (post : Int32 → List KY × VS → Prop) : Prop := (0, 0, 0) ∈ ks ∧ (34, 0, 0) ∈ ks ∧ wp_X8_addReader ks a1 a2 a3 V (fun r u => (34, 0, 0) ∈ u.1 ∧ post 0 (u.1, vup u.2 34 0 0 0 0 r)) (fun n9 V1 => (n9 = 1 ∧ post 1 (ks, V1)) ∨ (n9 = 2 ∧ post 2 (ks, V1)) ∨ (n9 = 3 ∧ post 3 (ks, V1)))
set_option maxHeartbeats 4000000 in
set_option maxRecDepth 100000 in
theorem c_L_addReader (l : Launch) (hlf : l.stackTraces = false) (G : GG) (ks : List KY) (ad : AD) (a1 : Int32) (a2 : Int32) (a3 : Int32) (V : VS) (post : Int32 → List KY × VS → Prop) (h : wp_L_addReader ks a1 a2 a3 V post) (sz : Nat) : Met l yL_addReader (wsH yL_addReader cL_addReader 6 (some .int) [(0, 12, 15, 19), (0, 12, 19, 21), (0, 12, 23, 13)]) ({ frames := 9, cells := 5, slots := 88, locals := 219 }) (mPc [.ref (ad 0 0 0), .int a1, .int a2, .int a3, .ref (ad 34 0 0)] G ks ad V sz) (mQn post G ks ad sz) 5 88 (mA ks ad sz) := by
  refine g_metW (own := RL) (by decide) rfl (Nat.le_of_ble_eq_true rfl) ?_
  intro p e s m args below meth c ls hC hsz hr hlk hS hl htab
  have hl : lv_has ls 6 [(0, .ref (ad 0 0 0)), (1, .int a1), (2, .int a2), (3, .int a3), (4, .ref (ad 34 0 0))] := hl
  obtain ⟨hk0, hk34, h⟩ := h
  refine lv_aload hC.1 hC.2.1 dL_addReader_0 (lv_at hl 4 rfl) ?_
  refine lv_iconst (v := 0) hC.1 hC.2.1 dL_addReader_2 (by decide) ?_
  refine lv_aload_n hC.1 hC.2.1 dL_addReader_3 rfl (lv_at hl 0 rfl) ?_
  refine lv_iload_n hC.1 hC.2.1 dL_addReader_4 rfl (lv_at hl 1 rfl) ?_
  refine lv_iload_n hC.1 hC.2.1 dL_addReader_5 rfl (lv_at hl 2 rfl) ?_
  refine lv_iload_n hC.1 hC.2.1 dL_addReader_6 rfl (lv_at hl 3 rfl) ?_
  refine g_wcallN hS (g_xrunV (n := 3) (rest := [.int 0, .ref (ad 34 0 0)]) (As := [.int a1, .int a2, .int a3]) (C := RX8) (T := TX8) (N := 2) hC hS hk0 rfl rfl (c_X8_addReader l hlf G ks ad a1 a2 a3 V _ _ h _) (gI wq_708 wq_709 wq_710 wq_39 wq_711) rfl ⟨⟨by decide +kernel, by decide +kernel, by decide +kernel⟩, rfl, rfl, Nat.le_of_ble_eq_true rfl, Nat.le_of_ble_eq_true rfl⟩ rfl hl rfl (Nat.le_of_ble_eq_true rfl) dL_addReader_7 ⟨Nat.le_of_ble_eq_true rfl, Nat.le_of_ble_eq_true rfl⟩) (fun n9 V1 H locs ce q9 h hS hcell hv hcl => ?_) (fun r ks1 ad1 V1 H locs h hag hS => ?_)
  · rcases h with ⟨rfl, h⟩ | ⟨rfl, h⟩ | ⟨rfl, h⟩
    · refine vx_catch (own := RL) hC.2.2.2.1 [] (⟨0, 12, 15, 19⟩ : ExceptionTableEntry) [(⟨0, 12, 19, 21⟩ : ExceptionTableEntry), (⟨0, 12, 23, 13⟩ : ExceptionTableEntry)] (htab.trans rfl) (fun z hz => by cases hz) (by decide) (by decide) (hC.2.2.2.2.1 _ wq_487) (cast_1 hC) hcell hv hcl ?_
      refine W.widen (k := 5) (n := 88) (Nat.le_of_ble_eq_true rfl) (Nat.le_of_ble_eq_true rfl) ?_
      refine lv_astore (lv' := [(5, .ref q9), (0, .ref (ad 0 0 0)), (1, .int a1), (2, .int a2), (3, .int a3), (4, .ref (ad 34 0 0))]) hC.1 hC.2.1 dL_addReader_15 hl (by decide) rfl (fun ls hl => ?_)
      refine lv_iconst (v := 1) hC.1 hC.2.1 dL_addReader_17 (by decide) ?_
      exact g_iretN hC hr hlk hS (fun _ _ _ _ _ => rfl) h dL_addReader_18
    · refine vx_catch (own := RL) hC.2.2.2.1 [(⟨0, 12, 15, 19⟩ : ExceptionTableEntry)] (⟨0, 12, 19, 21⟩ : ExceptionTableEntry) [(⟨0, 12, 23, 13⟩ : ExceptionTableEntry)] (htab.trans rfl) (fun z hz => Or.inr (by rw [List.mem_singleton.mp hz]; exact ⟨by decide, _, hC.2.2.2.2.1 _ wq_487, nc_21 hC⟩)) (by decide) (by decide) (hC.2.2.2.2.1 _ wq_488) (cast_2 hC) hcell hv hcl ?_
      refine W.widen (k := 5) (n := 88) (Nat.le_of_ble_eq_true rfl) (Nat.le_of_ble_eq_true rfl) ?_
      refine lv_astore (lv' := [(5, .ref q9), (0, .ref (ad 0 0 0)), (1, .int a1), (2, .int a2), (3, .int a3), (4, .ref (ad 34 0 0))]) hC.1 hC.2.1 dL_addReader_19 hl (by decide) rfl (fun ls hl => ?_)
      refine lv_iconst (v := 2) hC.1 hC.2.1 dL_addReader_21 (by decide) ?_
      exact g_iretN hC hr hlk hS (fun _ _ _ _ _ => rfl) h dL_addReader_22
    · refine vx_catch (own := RL) hC.2.2.2.1 [(⟨0, 12, 15, 19⟩ : ExceptionTableEntry), (⟨0, 12, 19, 21⟩ : ExceptionTableEntry)] (⟨0, 12, 23, 13⟩ : ExceptionTableEntry) [] (htab.trans rfl) (fun z hz => Or.inr (by rcases List.mem_cons.mp hz with hz | hz; rw [hz]; exact ⟨by decide, _, hC.2.2.2.2.1 _ wq_487, nc_31 hC⟩; rw [List.mem_singleton.mp hz]; exact ⟨by decide, _, hC.2.2.2.2.1 _ wq_488, nc_32 hC⟩)) (by decide) (by decide) (hC.2.2.2.2.1 _ wq_333) (cast_3 hC) hcell hv hcl ?_
      refine W.widen (k := 5) (n := 88) (Nat.le_of_ble_eq_true rfl) (Nat.le_of_ble_eq_true rfl) ?_
      refine lv_astore (lv' := [(5, .ref q9), (0, .ref (ad 0 0 0)), (1, .int a1), (2, .int a2), (3, .int a3), (4, .ref (ad 34 0 0))]) hC.1 hC.2.1 dL_addReader_23 hl (by decide) rfl (fun ls hl => ?_)
      refine lv_iconst (v := 3) hC.1 hC.2.1 dL_addReader_25 (by decide) ?_
      exact g_iretN hC hr hlk hS (fun _ _ _ _ _ => rfl) h dL_addReader_26
  · refine W.widen (k := 5) (n := 88) (Nat.le_of_ble_eq_true rfl) (Nat.le_of_ble_eq_true rfl) ?_
    refine lv_i2l hC.1 hC.2.1 dL_addReader_10 rfl ?_
    obtain ⟨hk34, h⟩ := h
    rw [← hag 34 0 0 (by decide) (by decide)]
    refine g_out hC hS hk34 dL_addReader_11 (fun H locs hS => ?_)
    refine lv_goto (tgt := 27) hC.1 hC.2.1 dL_addReader_12 (by decide) ?_
    refine lv_iconst (v := 0) hC.1 hC.2.1 dL_addReader_27 (by decide) ?_
    exact g_iretN hC hr hlk hS hag h dL_addReader_28
def wp_L_reserve (ks : List KY) (a1 : Int32) (a2 : Int32) (V : VS) (post : Int32 → VS → Prop) : Prop := (0, 0, 0) ∈ ks ∧ (34, 0, 0) ∈ ks ∧ wp_X8_reserve ks a1 a2 V (fun r V1 => post 0 (vup V1 34 0 0 0 0 r)) (fun n9 V1 => (n9 = 1 ∧ post 1 V1) ∨ (n9 = 3 ∧ post 2 V1))
set_option maxHeartbeats 4000000 in
set_option maxRecDepth 100000 in
theorem c_L_reserve (l : Launch) (hlf : l.stackTraces = false) (G : GG) (ks : List KY) (ad : AD) (a1 : Int32) (a2 : Int32) (V : VS) (post : Int32 → VS → Prop) (h : wp_L_reserve ks a1 a2 V post) (sz : Nat) : Met l yL_reserve (wsH yL_reserve cL_reserve 5 (some .int) [(0, 10, 13, 19), (0, 10, 17, 13)]) ({ frames := 9, cells := 3, slots := 18, locals := 147 }) (mPc [.ref (ad 0 0 0), .int a1, .int a2, .ref (ad 34 0 0)] G ks ad V sz) (mQi post G ks ad sz) 3 18 (mA ks ad sz) := by
  refine g_metW (own := RL) (by decide) rfl (Nat.le_of_ble_eq_true rfl) ?_
  intro p e s m args below meth c ls hC hsz hr hlk hS hl htab
  have hl : lv_has ls 5 [(0, .ref (ad 0 0 0)), (1, .int a1), (2, .int a2), (3, .ref (ad 34 0 0))] := hl
  obtain ⟨hk0, hk34, h⟩ := h
  refine lv_aload_n hC.1 hC.2.1 dL_reserve_0 rfl (lv_at hl 3 rfl) ?_
  refine lv_iconst (v := 0) hC.1 hC.2.1 dL_reserve_1 (by decide) ?_
  refine lv_aload_n hC.1 hC.2.1 dL_reserve_2 rfl (lv_at hl 0 rfl) ?_
  refine lv_iload_n hC.1 hC.2.1 dL_reserve_3 rfl (lv_at hl 1 rfl) ?_
  refine lv_iload_n hC.1 hC.2.1 dL_reserve_4 rfl (lv_at hl 2 rfl) ?_
  refine g_wcall hS (g_xrunV (n := 2) (rest := [.int 0, .ref (ad 34 0 0)]) (As := [.int a1, .int a2]) (C := RX8) (T := TX8) (N := 2) hC hS hk0 rfl rfl (c_X8_reserve l hlf G ks ad a1 a2 V _ _ h _) (gI wq_761 wq_762 wq_763 wq_39 wq_764) rfl ⟨⟨by decide +kernel, by decide +kernel, by decide +kernel⟩, rfl, rfl, Nat.le_of_ble_eq_true rfl, Nat.le_of_ble_eq_true rfl⟩ rfl hl rfl (Nat.le_of_ble_eq_true rfl) dL_reserve_5 ⟨Nat.le_of_ble_eq_true rfl, Nat.le_of_ble_eq_true rfl⟩) (fun n9 V1 H locs ce q9 h hS hcell hv hcl => ?_) (fun r V1 H locs h hS => ?_)
  · rcases h with ⟨rfl, h⟩ | ⟨rfl, h⟩
    · refine vx_catch (own := RL) hC.2.2.2.1 [] (⟨0, 10, 13, 19⟩ : ExceptionTableEntry) [(⟨0, 10, 17, 13⟩ : ExceptionTableEntry)] (htab.trans rfl) (fun z hz => by cases hz) (by decide) (by decide) (hC.2.2.2.2.1 _ wq_487) (cast_1 hC) hcell hv hcl ?_
      refine W.widen (k := 3) (n := 18) (Nat.le_of_ble_eq_true rfl) (Nat.le_of_ble_eq_true rfl) ?_
      refine lv_astore (lv' := [(4, .ref q9), (0, .ref (ad 0 0 0)), (1, .int a1), (2, .int a2), (3, .ref (ad 34 0 0))]) hC.1 hC.2.1 dL_reserve_13 hl (by decide) rfl (fun ls hl => ?_)
      refine lv_iconst (v := 1) hC.1 hC.2.1 dL_reserve_15 (by decide) ?_
      exact g_iret hC hr hlk hS h dL_reserve_16
    · refine vx_catch (own := RL) hC.2.2.2.1 [(⟨0, 10, 13, 19⟩ : ExceptionTableEntry)] (⟨0, 10, 17, 13⟩ : ExceptionTableEntry) [] (htab.trans rfl) (fun z hz => Or.inr (by rw [List.mem_singleton.mp hz]; exact ⟨by decide, _, hC.2.2.2.2.1 _ wq_487, nc_31 hC⟩)) (by decide) (by decide) (hC.2.2.2.2.1 _ wq_333) (cast_3 hC) hcell hv hcl ?_
      refine W.widen (k := 3) (n := 18) (Nat.le_of_ble_eq_true rfl) (Nat.le_of_ble_eq_true rfl) ?_
      refine lv_astore (lv' := [(4, .ref q9), (0, .ref (ad 0 0 0)), (1, .int a1), (2, .int a2), (3, .ref (ad 34 0 0))]) hC.1 hC.2.1 dL_reserve_17 hl (by decide) rfl (fun ls hl => ?_)
      refine lv_iconst (v := 2) hC.1 hC.2.1 dL_reserve_19 (by decide) ?_
      exact g_iret hC hr hlk hS h dL_reserve_20
  · refine W.widen (k := 3) (n := 18) (Nat.le_of_ble_eq_true rfl) (Nat.le_of_ble_eq_true rfl) ?_
    refine lv_i2l hC.1 hC.2.1 dL_reserve_8 rfl ?_
    refine g_out hC hS hk34 dL_reserve_9 (fun H locs hS => ?_)
    refine lv_goto (tgt := 21) hC.1 hC.2.1 dL_reserve_10 (by decide) ?_
    refine lv_iconst (v := 0) hC.1 hC.2.1 dL_reserve_21 (by decide) ?_
    exact g_iret hC hr hlk hS h dL_reserve_22
def wp_L_cancel (ks : List KY) (a1 : Int32) (a2 : Int32) (V : VS) (post : Int32 → VS → Prop) : Prop := (0, 0, 0) ∈ ks ∧ (34, 0, 0) ∈ ks ∧ wp_X8_cancel ks a1 a2 V (fun r V1 => post 0 (vup V1 34 0 0 0 0 r)) (fun n9 V1 => (n9 = 1 ∧ post 1 V1))
set_option maxHeartbeats 4000000 in
set_option maxRecDepth 100000 in
theorem c_L_cancel (l : Launch) (hlf : l.stackTraces = false) (G : GG) (ks : List KY) (ad : AD) (a1 : Int32) (a2 : Int32) (V : VS) (post : Int32 → VS → Prop) (h : wp_L_cancel ks a1 a2 V post) (sz : Nat) : Met l yL_cancel (wsH yL_cancel cL_cancel 5 (some .int) [(0, 10, 13, 19)]) ({ frames := 9, cells := 2, slots := 12, locals := 148 }) (mPc [.ref (ad 0 0 0), .int a1, .int a2, .ref (ad 34 0 0)] G ks ad V sz) (mQi post G ks ad sz) 2 12 (mA ks ad sz) := by
  refine g_metW (own := RL) (by decide) rfl (Nat.le_of_ble_eq_true rfl) ?_
  intro p e s m args below meth c ls hC hsz hr hlk hS hl htab
  have hl : lv_has ls 5 [(0, .ref (ad 0 0 0)), (1, .int a1), (2, .int a2), (3, .ref (ad 34 0 0))] := hl
  obtain ⟨hk0, hk34, h⟩ := h
  refine lv_aload_n hC.1 hC.2.1 dL_cancel_0 rfl (lv_at hl 3 rfl) ?_
  refine lv_iconst (v := 0) hC.1 hC.2.1 dL_cancel_1 (by decide) ?_
  refine lv_aload_n hC.1 hC.2.1 dL_cancel_2 rfl (lv_at hl 0 rfl) ?_
  refine lv_iload_n hC.1 hC.2.1 dL_cancel_3 rfl (lv_at hl 1 rfl) ?_
  refine lv_iload_n hC.1 hC.2.1 dL_cancel_4 rfl (lv_at hl 2 rfl) ?_
  refine g_wcall hS (g_xrunV (n := 2) (rest := [.int 0, .ref (ad 34 0 0)]) (As := [.int a1, .int a2]) (C := RX8) (T := TX8) (N := 2) hC hS hk0 rfl rfl (c_X8_cancel l hlf G ks ad a1 a2 V _ _ h _) (gI wq_785 wq_786 wq_787 wq_39 wq_788) rfl ⟨⟨by decide +kernel, by decide +kernel, by decide +kernel⟩, rfl, rfl, Nat.le_of_ble_eq_true rfl, Nat.le_of_ble_eq_true rfl⟩ rfl hl rfl (Nat.le_of_ble_eq_true rfl) dL_cancel_5 ⟨Nat.le_of_ble_eq_true rfl, Nat.le_of_ble_eq_true rfl⟩) (fun n9 V1 H locs ce q9 h hS hcell hv hcl => ?_) (fun r V1 H locs h hS => ?_)
  · obtain ⟨rfl, h⟩ := h
    refine vx_catch (own := RL) hC.2.2.2.1 [] (⟨0, 10, 13, 19⟩ : ExceptionTableEntry) [] (htab.trans rfl) (fun z hz => by cases hz) (by decide) (by decide) (hC.2.2.2.2.1 _ wq_487) (cast_1 hC) hcell hv hcl ?_
    refine W.widen (k := 2) (n := 12) (Nat.le_of_ble_eq_true rfl) (Nat.le_of_ble_eq_true rfl) ?_
    refine lv_astore (lv' := [(4, .ref q9), (0, .ref (ad 0 0 0)), (1, .int a1), (2, .int a2), (3, .ref (ad 34 0 0))]) hC.1 hC.2.1 dL_cancel_13 hl (by decide) rfl (fun ls hl => ?_)
    refine lv_iconst (v := 1) hC.1 hC.2.1 dL_cancel_15 (by decide) ?_
    exact g_iret hC hr hlk hS h dL_cancel_16
  · refine W.widen (k := 2) (n := 12) (Nat.le_of_ble_eq_true rfl) (Nat.le_of_ble_eq_true rfl) ?_
    refine lv_i2l hC.1 hC.2.1 dL_cancel_8 rfl ?_
    refine g_out hC hS hk34 dL_cancel_9 (fun H locs hS => ?_)
    refine lv_goto (tgt := 17) hC.1 hC.2.1 dL_cancel_10 (by decide) ?_
    refine lv_iconst (v := 0) hC.1 hC.2.1 dL_cancel_17 (by decide) ?_
    exact g_iret hC hr hlk hS h dL_cancel_18
def wp_L_book (ks : List KY) (a1 : Int32) (a2 : Int32) (V : VS) (post : Int32 → VS → Prop) : Prop := (0, 0, 0) ∈ ks ∧ (34, 0, 0) ∈ ks ∧ wp_X8_book ks a1 a2 V (fun r V1 => post 0 (vup V1 34 0 0 0 0 r)) (fun n9 V1 => (n9 = 1 ∧ post 1 V1))
set_option maxHeartbeats 4000000 in
set_option maxRecDepth 100000 in
theorem c_L_book (l : Launch) (hlf : l.stackTraces = false) (G : GG) (ks : List KY) (ad : AD) (a1 : Int32) (a2 : Int32) (V : VS) (post : Int32 → VS → Prop) (h : wp_L_book ks a1 a2 V post) (sz : Nat) : Met l yL_book (wsH yL_book cL_book 5 (some .int) [(0, 10, 13, 19)]) ({ frames := 9, cells := 2, slots := 12, locals := 146 }) (mPc [.ref (ad 0 0 0), .int a1, .int a2, .ref (ad 34 0 0)] G ks ad V sz) (mQi post G ks ad sz) 2 12 (mA ks ad sz) := by
  refine g_metW (own := RL) (by decide) rfl (Nat.le_of_ble_eq_true rfl) ?_
  intro p e s m args below meth c ls hC hsz hr hlk hS hl htab
  have hl : lv_has ls 5 [(0, .ref (ad 0 0 0)), (1, .int a1), (2, .int a2), (3, .ref (ad 34 0 0))] := hl
  obtain ⟨hk0, hk34, h⟩ := h
  refine lv_aload_n hC.1 hC.2.1 dL_book_0 rfl (lv_at hl 3 rfl) ?_
  refine lv_iconst (v := 0) hC.1 hC.2.1 dL_book_1 (by decide) ?_
  refine lv_aload_n hC.1 hC.2.1 dL_book_2 rfl (lv_at hl 0 rfl) ?_
  refine lv_iload_n hC.1 hC.2.1 dL_book_3 rfl (lv_at hl 1 rfl) ?_
  refine lv_iload_n hC.1 hC.2.1 dL_book_4 rfl (lv_at hl 2 rfl) ?_
  refine g_wcall hS (g_xrunV (n := 2) (rest := [.int 0, .ref (ad 34 0 0)]) (As := [.int a1, .int a2]) (C := RX8) (T := TX8) (N := 2) hC hS hk0 rfl rfl (c_X8_book l hlf G ks ad a1 a2 V _ _ h _) (gI wq_796 wq_797 wq_798 wq_39 wq_799) rfl ⟨⟨by decide +kernel, by decide +kernel, by decide +kernel⟩, rfl, rfl, Nat.le_of_ble_eq_true rfl, Nat.le_of_ble_eq_true rfl⟩ rfl hl rfl (Nat.le_of_ble_eq_true rfl) dL_book_5 ⟨Nat.le_of_ble_eq_true rfl, Nat.le_of_ble_eq_true rfl⟩) (fun n9 V1 H locs ce q9 h hS hcell hv hcl => ?_) (fun r V1 H locs h hS => ?_)
  · obtain ⟨rfl, h⟩ := h
    refine vx_catch (own := RL) hC.2.2.2.1 [] (⟨0, 10, 13, 19⟩ : ExceptionTableEntry) [] (htab.trans rfl) (fun z hz => by cases hz) (by decide) (by decide) (hC.2.2.2.2.1 _ wq_487) (cast_1 hC) hcell hv hcl ?_
    refine W.widen (k := 2) (n := 12) (Nat.le_of_ble_eq_true rfl) (Nat.le_of_ble_eq_true rfl) ?_
    refine lv_astore (lv' := [(4, .ref q9), (0, .ref (ad 0 0 0)), (1, .int a1), (2, .int a2), (3, .ref (ad 34 0 0))]) hC.1 hC.2.1 dL_book_13 hl (by decide) rfl (fun ls hl => ?_)
    refine lv_iconst (v := 1) hC.1 hC.2.1 dL_book_15 (by decide) ?_
    exact g_iret hC hr hlk hS h dL_book_16
  · refine W.widen (k := 2) (n := 12) (Nat.le_of_ble_eq_true rfl) (Nat.le_of_ble_eq_true rfl) ?_
    refine lv_i2l hC.1 hC.2.1 dL_book_8 rfl ?_
    refine g_out hC hS hk34 dL_book_9 (fun H locs hS => ?_)
    refine lv_goto (tgt := 17) hC.1 hC.2.1 dL_book_10 (by decide) ?_
    refine lv_iconst (v := 0) hC.1 hC.2.1 dL_book_17 (by decide) ?_
    exact g_iret hC hr hlk hS h dL_book_18
def wp_L_reader (ks : List KY) (a1 : Int32) (a2 : Int32) (V : VS) (post : Int32 → VS → Prop) : Prop := (0, 0, 0) ∈ ks ∧ (34, 0, 0) ∈ ks ∧ wp_X8_reader ks a1 a2 V (fun r V1 => post 0 (vup V1 34 0 0 0 0 r)) (fun n9 V1 => (n9 = 1 ∧ post 1 V1))
set_option maxHeartbeats 4000000 in
set_option maxRecDepth 100000 in
theorem c_L_reader (l : Launch) (hlf : l.stackTraces = false) (G : GG) (ks : List KY) (ad : AD) (a1 : Int32) (a2 : Int32) (V : VS) (post : Int32 → VS → Prop) (h : wp_L_reader ks a1 a2 V post) (sz : Nat) : Met l yL_reader (wsH yL_reader cL_reader 5 (some .int) [(0, 10, 13, 19)]) ({ frames := 9, cells := 2, slots := 12, locals := 146 }) (mPc [.ref (ad 0 0 0), .int a1, .int a2, .ref (ad 34 0 0)] G ks ad V sz) (mQi post G ks ad sz) 2 12 (mA ks ad sz) := by
  refine g_metW (own := RL) (by decide) rfl (Nat.le_of_ble_eq_true rfl) ?_
  intro p e s m args below meth c ls hC hsz hr hlk hS hl htab
  have hl : lv_has ls 5 [(0, .ref (ad 0 0 0)), (1, .int a1), (2, .int a2), (3, .ref (ad 34 0 0))] := hl
  obtain ⟨hk0, hk34, h⟩ := h
  refine lv_aload_n hC.1 hC.2.1 dL_reader_0 rfl (lv_at hl 3 rfl) ?_
  refine lv_iconst (v := 0) hC.1 hC.2.1 dL_reader_1 (by decide) ?_
  refine lv_aload_n hC.1 hC.2.1 dL_reader_2 rfl (lv_at hl 0 rfl) ?_
  refine lv_iload_n hC.1 hC.2.1 dL_reader_3 rfl (lv_at hl 1 rfl) ?_
  refine lv_iload_n hC.1 hC.2.1 dL_reader_4 rfl (lv_at hl 2 rfl) ?_
  refine g_wcall hS (g_xrunV (n := 2) (rest := [.int 0, .ref (ad 34 0 0)]) (As := [.int a1, .int a2]) (C := RX8) (T := TX8) (N := 2) hC hS hk0 rfl rfl (c_X8_reader l hlf G ks ad a1 a2 V _ _ h _) (gI wq_804 wq_805 wq_806 wq_39 wq_807) rfl ⟨⟨by decide +kernel, by decide +kernel, by decide +kernel⟩, rfl, rfl, Nat.le_of_ble_eq_true rfl, Nat.le_of_ble_eq_true rfl⟩ rfl hl rfl (Nat.le_of_ble_eq_true rfl) dL_reader_5 ⟨Nat.le_of_ble_eq_true rfl, Nat.le_of_ble_eq_true rfl⟩) (fun n9 V1 H locs ce q9 h hS hcell hv hcl => ?_) (fun r V1 H locs h hS => ?_)
  · obtain ⟨rfl, h⟩ := h
    refine vx_catch (own := RL) hC.2.2.2.1 [] (⟨0, 10, 13, 19⟩ : ExceptionTableEntry) [] (htab.trans rfl) (fun z hz => by cases hz) (by decide) (by decide) (hC.2.2.2.2.1 _ wq_487) (cast_1 hC) hcell hv hcl ?_
    refine W.widen (k := 2) (n := 12) (Nat.le_of_ble_eq_true rfl) (Nat.le_of_ble_eq_true rfl) ?_
    refine lv_astore (lv' := [(4, .ref q9), (0, .ref (ad 0 0 0)), (1, .int a1), (2, .int a2), (3, .ref (ad 34 0 0))]) hC.1 hC.2.1 dL_reader_13 hl (by decide) rfl (fun ls hl => ?_)
    refine lv_iconst (v := 1) hC.1 hC.2.1 dL_reader_15 (by decide) ?_
    exact g_iret hC hr hlk hS h dL_reader_16
  · refine W.widen (k := 2) (n := 12) (Nat.le_of_ble_eq_true rfl) (Nat.le_of_ble_eq_true rfl) ?_
    refine lv_i2l hC.1 hC.2.1 dL_reader_8 rfl ?_
    refine g_out hC hS hk34 dL_reader_9 (fun H locs hS => ?_)
    refine lv_goto (tgt := 17) hC.1 hC.2.1 dL_reader_10 (by decide) ?_
    refine lv_iconst (v := 0) hC.1 hC.2.1 dL_reader_17 (by decide) ?_
    exact g_iret hC hr hlk hS h dL_reader_18
def wp_L_pay (ks : List KY) (a1 : Int32) (a2 : Int32) (V : VS) (post : Int32 → VS → Prop) : Prop := (0, 0, 0) ∈ ks ∧ (34, 0, 0) ∈ ks ∧ wp_X8_pay ks a1 a2 V (fun r V1 => post 0 (vup V1 34 0 0 0 0 r)) (fun n9 V1 => (n9 = 1 ∧ post 1 V1) ∨ (n9 = 2 ∧ post 2 V1))
set_option maxHeartbeats 4000000 in
set_option maxRecDepth 100000 in
theorem c_L_pay (l : Launch) (hlf : l.stackTraces = false) (G : GG) (ks : List KY) (ad : AD) (a1 : Int32) (a2 : Int32) (V : VS) (post : Int32 → VS → Prop) (h : wp_L_pay ks a1 a2 V post) (sz : Nat) : Met l yL_pay (wsH yL_pay cL_pay 5 (some .int) [(0, 10, 13, 19), (0, 10, 17, 21)]) ({ frames := 9, cells := 2, slots := 12, locals := 147 }) (mPc [.ref (ad 0 0 0), .int a1, .int a2, .ref (ad 34 0 0)] G ks ad V sz) (mQi post G ks ad sz) 2 12 (mA ks ad sz) := by
  refine g_metW (own := RL) (by decide) rfl (Nat.le_of_ble_eq_true rfl) ?_
  intro p e s m args below meth c ls hC hsz hr hlk hS hl htab
  have hl : lv_has ls 5 [(0, .ref (ad 0 0 0)), (1, .int a1), (2, .int a2), (3, .ref (ad 34 0 0))] := hl
  obtain ⟨hk0, hk34, h⟩ := h
  refine lv_aload_n hC.1 hC.2.1 dL_pay_0 rfl (lv_at hl 3 rfl) ?_
  refine lv_iconst (v := 0) hC.1 hC.2.1 dL_pay_1 (by decide) ?_
  refine lv_aload_n hC.1 hC.2.1 dL_pay_2 rfl (lv_at hl 0 rfl) ?_
  refine lv_iload_n hC.1 hC.2.1 dL_pay_3 rfl (lv_at hl 1 rfl) ?_
  refine lv_iload_n hC.1 hC.2.1 dL_pay_4 rfl (lv_at hl 2 rfl) ?_
  refine g_wcall hS (g_xrunV (n := 2) (rest := [.int 0, .ref (ad 34 0 0)]) (As := [.int a1, .int a2]) (C := RX8) (T := TX8) (N := 2) hC hS hk0 rfl rfl (c_X8_pay l hlf G ks ad a1 a2 V _ _ h _) (gI wq_812 wq_813 wq_814 wq_39 wq_815) rfl ⟨⟨by decide +kernel, by decide +kernel, by decide +kernel⟩, rfl, rfl, Nat.le_of_ble_eq_true rfl, Nat.le_of_ble_eq_true rfl⟩ rfl hl rfl (Nat.le_of_ble_eq_true rfl) dL_pay_5 ⟨Nat.le_of_ble_eq_true rfl, Nat.le_of_ble_eq_true rfl⟩) (fun n9 V1 H locs ce q9 h hS hcell hv hcl => ?_) (fun r V1 H locs h hS => ?_)
  · rcases h with ⟨rfl, h⟩ | ⟨rfl, h⟩
    · refine vx_catch (own := RL) hC.2.2.2.1 [] (⟨0, 10, 13, 19⟩ : ExceptionTableEntry) [(⟨0, 10, 17, 21⟩ : ExceptionTableEntry)] (htab.trans rfl) (fun z hz => by cases hz) (by decide) (by decide) (hC.2.2.2.2.1 _ wq_487) (cast_1 hC) hcell hv hcl ?_
      refine W.widen (k := 2) (n := 12) (Nat.le_of_ble_eq_true rfl) (Nat.le_of_ble_eq_true rfl) ?_
      refine lv_astore (lv' := [(4, .ref q9), (0, .ref (ad 0 0 0)), (1, .int a1), (2, .int a2), (3, .ref (ad 34 0 0))]) hC.1 hC.2.1 dL_pay_13 hl (by decide) rfl (fun ls hl => ?_)
      refine lv_iconst (v := 1) hC.1 hC.2.1 dL_pay_15 (by decide) ?_
      exact g_iret hC hr hlk hS h dL_pay_16
    · refine vx_catch (own := RL) hC.2.2.2.1 [(⟨0, 10, 13, 19⟩ : ExceptionTableEntry)] (⟨0, 10, 17, 21⟩ : ExceptionTableEntry) [] (htab.trans rfl) (fun z hz => Or.inr (by rw [List.mem_singleton.mp hz]; exact ⟨by decide, _, hC.2.2.2.2.1 _ wq_487, nc_21 hC⟩)) (by decide) (by decide) (hC.2.2.2.2.1 _ wq_488) (cast_2 hC) hcell hv hcl ?_
      refine W.widen (k := 2) (n := 12) (Nat.le_of_ble_eq_true rfl) (Nat.le_of_ble_eq_true rfl) ?_
      refine lv_astore (lv' := [(4, .ref q9), (0, .ref (ad 0 0 0)), (1, .int a1), (2, .int a2), (3, .ref (ad 34 0 0))]) hC.1 hC.2.1 dL_pay_17 hl (by decide) rfl (fun ls hl => ?_)
      refine lv_iconst (v := 2) hC.1 hC.2.1 dL_pay_19 (by decide) ?_
      exact g_iret hC hr hlk hS h dL_pay_20
  · refine W.widen (k := 2) (n := 12) (Nat.le_of_ble_eq_true rfl) (Nat.le_of_ble_eq_true rfl) ?_
    refine lv_i2l hC.1 hC.2.1 dL_pay_8 rfl ?_
    refine g_out hC hS hk34 dL_pay_9 (fun H locs hS => ?_)
    refine lv_goto (tgt := 21) hC.1 hC.2.1 dL_pay_10 (by decide) ?_
    refine lv_iconst (v := 0) hC.1 hC.2.1 dL_pay_21 (by decide) ?_
    exact g_iret hC hr hlk hS h dL_pay_22
def wp_L_pass (ks : List KY) (a1 : Int32) (V : VS) (post : Int32 → VS → Prop) : Prop := (0, 0, 0) ∈ ks ∧ (34, 0, 0) ∈ ks ∧ wp_X8_pass ks a1 V (fun r V1 => post 0 (vup V1 34 0 0 0 0 r)) (fun n9 V1 => (n9 = 2 ∧ post 1 V1))
set_option maxHeartbeats 4000000 in
set_option maxRecDepth 100000 in
theorem c_L_pass (l : Launch) (hlf : l.stackTraces = false) (G : GG) (ks : List KY) (ad : AD) (a1 : Int32) (V : VS) (post : Int32 → VS → Prop) (h : wp_L_pass ks a1 V post) (sz : Nat) : Met l yL_pass (wsH yL_pass cL_pass 4 (some .int) [(0, 9, 12, 21)]) ({ frames := 8, cells := 1, slots := 6, locals := 181 }) (mPc [.ref (ad 0 0 0), .int a1, .ref (ad 34 0 0)] G ks ad V sz) (mQi post G ks ad sz) 1 6 (mA ks ad sz) := by
  refine g_metW (own := RL) (by decide) rfl (Nat.le_of_ble_eq_true rfl) ?_
  intro p e s m args below meth c ls hC hsz hr hlk hS hl htab
  have hl : lv_has ls 4 [(0, .ref (ad 0 0 0)), (1, .int a1), (2, .ref (ad 34 0 0))] := hl
  obtain ⟨hk0, hk34, h⟩ := h
  refine lv_aload_n hC.1 hC.2.1 dL_pass_0 rfl (lv_at hl 2 rfl) ?_
  refine lv_iconst (v := 0) hC.1 hC.2.1 dL_pass_1 (by decide) ?_
  refine lv_aload_n hC.1 hC.2.1 dL_pass_2 rfl (lv_at hl 0 rfl) ?_
  refine lv_iload_n hC.1 hC.2.1 dL_pass_3 rfl (lv_at hl 1 rfl) ?_
  refine g_wcall hS (g_xrunV (n := 1) (rest := [.int 0, .ref (ad 34 0 0)]) (As := [.int a1]) (C := RX8) (T := TX8) (N := 2) hC hS hk0 rfl rfl (c_X8_pass l hlf G ks ad a1 V _ _ h _) (gI wq_820 wq_821 wq_822 wq_39 wq_823) rfl ⟨⟨by decide +kernel, by decide +kernel, by decide +kernel⟩, rfl, rfl, Nat.le_of_ble_eq_true rfl, Nat.le_of_ble_eq_true rfl⟩ rfl hl rfl (Nat.le_of_ble_eq_true rfl) dL_pass_4 ⟨Nat.le_of_ble_eq_true rfl, Nat.le_of_ble_eq_true rfl⟩) (fun n9 V1 H locs ce q9 h hS hcell hv hcl => ?_) (fun r V1 H locs h hS => ?_)
  · obtain ⟨rfl, h⟩ := h
    refine vx_catch (own := RL) hC.2.2.2.1 [] (⟨0, 9, 12, 21⟩ : ExceptionTableEntry) [] (htab.trans rfl) (fun z hz => by cases hz) (by decide) (by decide) (hC.2.2.2.2.1 _ wq_488) (cast_2 hC) hcell hv hcl ?_
    refine W.widen (k := 1) (n := 6) (Nat.le_of_ble_eq_true rfl) (Nat.le_of_ble_eq_true rfl) ?_
    refine lv_astore_n (lv' := [(3, .ref q9), (0, .ref (ad 0 0 0)), (1, .int a1), (2, .ref (ad 34 0 0))]) hC.1 hC.2.1 dL_pass_12 rfl hl (by decide) rfl (fun ls hl => ?_)
    refine lv_iconst (v := 1) hC.1 hC.2.1 dL_pass_13 (by decide) ?_
    exact g_iret hC hr hlk hS h dL_pass_14
  · refine W.widen (k := 1) (n := 6) (Nat.le_of_ble_eq_true rfl) (Nat.le_of_ble_eq_true rfl) ?_
    refine lv_i2l hC.1 hC.2.1 dL_pass_7 rfl ?_
    refine g_out hC hS hk34 dL_pass_8 (fun H locs hS => ?_)
    refine lv_goto (tgt := 15) hC.1 hC.2.1 dL_pass_9 (by decide) ?_
    refine lv_iconst (v := 0) hC.1 hC.2.1 dL_pass_15 (by decide) ?_
    exact g_iret hC hr hlk hS h dL_pass_16
def wp_L_count (ks : List KY) (a1 : Int32) (V : VS) (post : Int32 → VS → Prop) : Prop := (0, 0, 0) ∈ ks ∧ (34, 0, 0) ∈ ks ∧ wp_X8_count ks a1 V (fun r V1 => post 0 (vup V1 34 0 0 0 0 r)) (fun n9 V1 => (n9 = 1 ∧ post 1 V1))
set_option maxHeartbeats 4000000 in
set_option maxRecDepth 100000 in
theorem c_L_count (l : Launch) (hlf : l.stackTraces = false) (G : GG) (ks : List KY) (ad : AD) (a1 : Int32) (V : VS) (post : Int32 → VS → Prop) (h : wp_L_count ks a1 V post) (sz : Nat) : Met l yL_count (wsH yL_count cL_count 4 (some .int) [(0, 9, 12, 19)]) ({ frames := 8, cells := 1, slots := 6, locals := 128 }) (mPc [.ref (ad 0 0 0), .int a1, .ref (ad 34 0 0)] G ks ad V sz) (mQi post G ks ad sz) 1 6 (mA ks ad sz) := by
  refine g_metW (own := RL) (by decide) rfl (Nat.le_of_ble_eq_true rfl) ?_
  intro p e s m args below meth c ls hC hsz hr hlk hS hl htab
  have hl : lv_has ls 4 [(0, .ref (ad 0 0 0)), (1, .int a1), (2, .ref (ad 34 0 0))] := hl
  obtain ⟨hk0, hk34, h⟩ := h
  refine lv_aload_n hC.1 hC.2.1 dL_count_0 rfl (lv_at hl 2 rfl) ?_
  refine lv_iconst (v := 0) hC.1 hC.2.1 dL_count_1 (by decide) ?_
  refine lv_aload_n hC.1 hC.2.1 dL_count_2 rfl (lv_at hl 0 rfl) ?_
  refine lv_iload_n hC.1 hC.2.1 dL_count_3 rfl (lv_at hl 1 rfl) ?_
  refine g_wcall hS (g_xrunV (n := 1) (rest := [.int 0, .ref (ad 34 0 0)]) (As := [.int a1]) (C := RX8) (T := TX8) (N := 2) hC hS hk0 rfl rfl (c_X8_count l hlf G ks ad a1 V _ _ h _) (gI wq_889 wq_890 wq_891 wq_39 wq_892) rfl ⟨⟨by decide +kernel, by decide +kernel, by decide +kernel⟩, rfl, rfl, Nat.le_of_ble_eq_true rfl, Nat.le_of_ble_eq_true rfl⟩ rfl hl rfl (Nat.le_of_ble_eq_true rfl) dL_count_4 ⟨Nat.le_of_ble_eq_true rfl, Nat.le_of_ble_eq_true rfl⟩) (fun n9 V1 H locs ce q9 h hS hcell hv hcl => ?_) (fun r V1 H locs h hS => ?_)
  · obtain ⟨rfl, h⟩ := h
    refine vx_catch (own := RL) hC.2.2.2.1 [] (⟨0, 9, 12, 19⟩ : ExceptionTableEntry) [] (htab.trans rfl) (fun z hz => by cases hz) (by decide) (by decide) (hC.2.2.2.2.1 _ wq_487) (cast_1 hC) hcell hv hcl ?_
    refine W.widen (k := 1) (n := 6) (Nat.le_of_ble_eq_true rfl) (Nat.le_of_ble_eq_true rfl) ?_
    refine lv_astore_n (lv' := [(3, .ref q9), (0, .ref (ad 0 0 0)), (1, .int a1), (2, .ref (ad 34 0 0))]) hC.1 hC.2.1 dL_count_12 rfl hl (by decide) rfl (fun ls hl => ?_)
    refine lv_iconst (v := 1) hC.1 hC.2.1 dL_count_13 (by decide) ?_
    exact g_iret hC hr hlk hS h dL_count_14
  · refine W.widen (k := 1) (n := 6) (Nat.le_of_ble_eq_true rfl) (Nat.le_of_ble_eq_true rfl) ?_
    refine lv_i2l hC.1 hC.2.1 dL_count_7 rfl ?_
    refine g_out hC hS hk34 dL_count_8 (fun H locs hS => ?_)
    refine lv_goto (tgt := 15) hC.1 hC.2.1 dL_count_9 (by decide) ?_
    refine lv_iconst (v := 0) hC.1 hC.2.1 dL_count_15 (by decide) ?_
    exact g_iret hC hr hlk hS h dL_count_16
def wp_L_foresee (ks : List KY) (a1 : Int32) (a2 : Int32) (V : VS) (post : Int32 → VS → Prop) : Prop := (0, 0, 0) ∈ ks ∧ (34, 0, 0) ∈ ks ∧ wp_X8_foresee ks a1 a2 V (fun r V1 => post 0 (vup V1 34 0 0 0 0 r)) (fun n9 V1 => (n9 = 2 ∧ post 1 V1) ∨ (n9 = 1 ∧ post 2 V1))
set_option maxHeartbeats 4000000 in
set_option maxRecDepth 100000 in
theorem c_L_foresee (l : Launch) (hlf : l.stackTraces = false) (G : GG) (ks : List KY) (ad : AD) (a1 : Int32) (a2 : Int32) (V : VS) (post : Int32 → VS → Prop) (h : wp_L_foresee ks a1 a2 V post) (sz : Nat) : Met l yL_foresee (wsH yL_foresee cL_foresee 5 (some .int) [(0, 10, 13, 21), (0, 10, 17, 19)]) ({ frames := 8, cells := 2, slots := 12, locals := 181 }) (mPc [.ref (ad 0 0 0), .int a1, .int a2, .ref (ad 34 0 0)] G ks ad V sz) (mQi post G ks ad sz) 2 12 (mA ks ad sz) := by
  refine g_metW (own := RL) (by decide) rfl (Nat.le_of_ble_eq_true rfl) ?_
  intro p e s m args below meth c ls hC hsz hr hlk hS hl htab
  have hl : lv_has ls 5 [(0, .ref (ad 0 0 0)), (1, .int a1), (2, .int a2), (3, .ref (ad 34 0 0))] := hl
  obtain ⟨hk0, hk34, h⟩ := h
  refine lv_aload_n hC.1 hC.2.1 dL_foresee_0 rfl (lv_at hl 3 rfl) ?_
  refine lv_iconst (v := 0) hC.1 hC.2.1 dL_foresee_1 (by decide) ?_
  refine lv_aload_n hC.1 hC.2.1 dL_foresee_2 rfl (lv_at hl 0 rfl) ?_
  refine lv_iload_n hC.1 hC.2.1 dL_foresee_3 rfl (lv_at hl 1 rfl) ?_
  refine lv_iload_n hC.1 hC.2.1 dL_foresee_4 rfl (lv_at hl 2 rfl) ?_
  refine g_wcall hS (g_xrunV (n := 2) (rest := [.int 0, .ref (ad 34 0 0)]) (As := [.int a1, .int a2]) (C := RX8) (T := TX8) (N := 2) hC hS hk0 rfl rfl (c_X8_foresee l hlf G ks ad a1 a2 V _ _ h _) (gI wq_897 wq_898 wq_899 wq_39 wq_900) rfl ⟨⟨by decide +kernel, by decide +kernel, by decide +kernel⟩, rfl, rfl, Nat.le_of_ble_eq_true rfl, Nat.le_of_ble_eq_true rfl⟩ rfl hl rfl (Nat.le_of_ble_eq_true rfl) dL_foresee_5 ⟨Nat.le_of_ble_eq_true rfl, Nat.le_of_ble_eq_true rfl⟩) (fun n9 V1 H locs ce q9 h hS hcell hv hcl => ?_) (fun r V1 H locs h hS => ?_)
  · rcases h with ⟨rfl, h⟩ | ⟨rfl, h⟩
    · refine vx_catch (own := RL) hC.2.2.2.1 [] (⟨0, 10, 13, 21⟩ : ExceptionTableEntry) [(⟨0, 10, 17, 19⟩ : ExceptionTableEntry)] (htab.trans rfl) (fun z hz => by cases hz) (by decide) (by decide) (hC.2.2.2.2.1 _ wq_488) (cast_2 hC) hcell hv hcl ?_
      refine W.widen (k := 2) (n := 12) (Nat.le_of_ble_eq_true rfl) (Nat.le_of_ble_eq_true rfl) ?_
      refine lv_astore (lv' := [(4, .ref q9), (0, .ref (ad 0 0 0)), (1, .int a1), (2, .int a2), (3, .ref (ad 34 0 0))]) hC.1 hC.2.1 dL_foresee_13 hl (by decide) rfl (fun ls hl => ?_)
      refine lv_iconst (v := 1) hC.1 hC.2.1 dL_foresee_15 (by decide) ?_
      exact g_iret hC hr hlk hS h dL_foresee_16
    · refine vx_catch (own := RL) hC.2.2.2.1 [(⟨0, 10, 13, 21⟩ : ExceptionTableEntry)] (⟨0, 10, 17, 19⟩ : ExceptionTableEntry) [] (htab.trans rfl) (fun z hz => Or.inr (by rw [List.mem_singleton.mp hz]; exact ⟨by decide, _, hC.2.2.2.2.1 _ wq_488, nc_12 hC⟩)) (by decide) (by decide) (hC.2.2.2.2.1 _ wq_487) (cast_1 hC) hcell hv hcl ?_
      refine W.widen (k := 2) (n := 12) (Nat.le_of_ble_eq_true rfl) (Nat.le_of_ble_eq_true rfl) ?_
      refine lv_astore (lv' := [(4, .ref q9), (0, .ref (ad 0 0 0)), (1, .int a1), (2, .int a2), (3, .ref (ad 34 0 0))]) hC.1 hC.2.1 dL_foresee_17 hl (by decide) rfl (fun ls hl => ?_)
      refine lv_iconst (v := 2) hC.1 hC.2.1 dL_foresee_19 (by decide) ?_
      exact g_iret hC hr hlk hS h dL_foresee_20
  · refine W.widen (k := 2) (n := 12) (Nat.le_of_ble_eq_true rfl) (Nat.le_of_ble_eq_true rfl) ?_
    refine lv_i2l hC.1 hC.2.1 dL_foresee_8 rfl ?_
    refine g_out hC hS hk34 dL_foresee_9 (fun H locs hS => ?_)
    refine lv_goto (tgt := 21) hC.1 hC.2.1 dL_foresee_10 (by decide) ?_
    refine lv_iconst (v := 0) hC.1 hC.2.1 dL_foresee_21 (by decide) ?_
    exact g_iret hC hr hlk hS h dL_foresee_22
def wp_L_gets (ks : List KY) (a1 : Int32) (a2 : Int32) (V : VS) (post : Int32 → VS → Prop) : Prop := (0, 0, 0) ∈ ks ∧ (34, 0, 0) ∈ ks ∧ wp_X8_gets ks a1 a2 V (fun r V1 => post 0 (vup V1 34 0 0 0 0 r)) (fun n9 V1 => (n9 = 1 ∧ post 1 V1))
set_option maxHeartbeats 4000000 in
set_option maxRecDepth 100000 in
theorem c_L_gets (l : Launch) (hlf : l.stackTraces = false) (G : GG) (ks : List KY) (ad : AD) (a1 : Int32) (a2 : Int32) (V : VS) (post : Int32 → VS → Prop) (h : wp_L_gets ks a1 a2 V post) (sz : Nat) : Met l yL_gets (wsH yL_gets cL_gets 5 (some .int) [(0, 10, 13, 19)]) ({ frames := 9, cells := 2, slots := 12, locals := 182 }) (mPc [.ref (ad 0 0 0), .int a1, .int a2, .ref (ad 34 0 0)] G ks ad V sz) (mQi post G ks ad sz) 2 12 (mA ks ad sz) := by
  refine g_metW (own := RL) (by decide) rfl (Nat.le_of_ble_eq_true rfl) ?_
  intro p e s m args below meth c ls hC hsz hr hlk hS hl htab
  have hl : lv_has ls 5 [(0, .ref (ad 0 0 0)), (1, .int a1), (2, .int a2), (3, .ref (ad 34 0 0))] := hl
  obtain ⟨hk0, hk34, h⟩ := h
  refine lv_aload_n hC.1 hC.2.1 dL_gets_0 rfl (lv_at hl 3 rfl) ?_
  refine lv_iconst (v := 0) hC.1 hC.2.1 dL_gets_1 (by decide) ?_
  refine lv_aload_n hC.1 hC.2.1 dL_gets_2 rfl (lv_at hl 0 rfl) ?_
  refine lv_iload_n hC.1 hC.2.1 dL_gets_3 rfl (lv_at hl 1 rfl) ?_
  refine lv_iload_n hC.1 hC.2.1 dL_gets_4 rfl (lv_at hl 2 rfl) ?_
  refine g_wcall hS (g_xrunV (n := 2) (rest := [.int 0, .ref (ad 34 0 0)]) (As := [.int a1, .int a2]) (C := RX8) (T := TX8) (N := 2) hC hS hk0 rfl rfl (c_X8_gets l hlf G ks ad a1 a2 V _ _ h _) (gI wq_943 wq_944 wq_945 wq_39 wq_946) rfl ⟨⟨by decide +kernel, by decide +kernel, by decide +kernel⟩, rfl, rfl, Nat.le_of_ble_eq_true rfl, Nat.le_of_ble_eq_true rfl⟩ rfl hl rfl (Nat.le_of_ble_eq_true rfl) dL_gets_5 ⟨Nat.le_of_ble_eq_true rfl, Nat.le_of_ble_eq_true rfl⟩) (fun n9 V1 H locs ce q9 h hS hcell hv hcl => ?_) (fun r V1 H locs h hS => ?_)
  · obtain ⟨rfl, h⟩ := h
    refine vx_catch (own := RL) hC.2.2.2.1 [] (⟨0, 10, 13, 19⟩ : ExceptionTableEntry) [] (htab.trans rfl) (fun z hz => by cases hz) (by decide) (by decide) (hC.2.2.2.2.1 _ wq_487) (cast_1 hC) hcell hv hcl ?_
    refine W.widen (k := 2) (n := 12) (Nat.le_of_ble_eq_true rfl) (Nat.le_of_ble_eq_true rfl) ?_
    refine lv_astore (lv' := [(4, .ref q9), (0, .ref (ad 0 0 0)), (1, .int a1), (2, .int a2), (3, .ref (ad 34 0 0))]) hC.1 hC.2.1 dL_gets_13 hl (by decide) rfl (fun ls hl => ?_)
    refine lv_iconst (v := 1) hC.1 hC.2.1 dL_gets_15 (by decide) ?_
    exact g_iret hC hr hlk hS h dL_gets_16
  · refine W.widen (k := 2) (n := 12) (Nat.le_of_ble_eq_true rfl) (Nat.le_of_ble_eq_true rfl) ?_
    refine lv_i2l hC.1 hC.2.1 dL_gets_8 rfl ?_
    refine g_out hC hS hk34 dL_gets_9 (fun H locs hS => ?_)
    refine lv_goto (tgt := 17) hC.1 hC.2.1 dL_gets_10 (by decide) ?_
    refine lv_iconst (v := 0) hC.1 hC.2.1 dL_gets_17 (by decide) ?_
    exact g_iret hC hr hlk hS h dL_gets_18
def wp_L_advise (ks : List KY) (a1 : Int32) (V : VS) (post : Int32 → VS → Prop) : Prop := (0, 0, 0) ∈ ks ∧ (34, 0, 0) ∈ ks ∧ wp_X8_advise ks a1 V (fun r V1 => post 0 (vup V1 34 0 0 0 0 r)) (fun n9 V1 => (n9 = 2 ∧ post 1 V1) ∨ (n9 = 3 ∧ post 2 V1))
set_option maxHeartbeats 4000000 in
set_option maxRecDepth 100000 in
theorem c_L_advise (l : Launch) (hlf : l.stackTraces = false) (G : GG) (ks : List KY) (ad : AD) (a1 : Int32) (V : VS) (post : Int32 → VS → Prop) (h : wp_L_advise ks a1 V post) (sz : Nat) : Met l yL_advise (wsH yL_advise cL_advise 4 (some .int) [(0, 9, 12, 21), (0, 9, 15, 13)]) ({ frames := 9, cells := 2, slots := 12, locals := 206 }) (mPc [.ref (ad 0 0 0), .int a1, .ref (ad 34 0 0)] G ks ad V sz) (mQi post G ks ad sz) 2 12 (mA ks ad sz) := by
  refine g_metW (own := RL) (by decide) rfl (Nat.le_of_ble_eq_true rfl) ?_
  intro p e s m args below meth c ls hC hsz hr hlk hS hl htab
  have hl : lv_has ls 4 [(0, .ref (ad 0 0 0)), (1, .int a1), (2, .ref (ad 34 0 0))] := hl
  obtain ⟨hk0, hk34, h⟩ := h
  refine lv_aload_n hC.1 hC.2.1 dL_advise_0 rfl (lv_at hl 2 rfl) ?_
  refine lv_iconst (v := 0) hC.1 hC.2.1 dL_advise_1 (by decide) ?_
  refine lv_aload_n hC.1 hC.2.1 dL_advise_2 rfl (lv_at hl 0 rfl) ?_
  refine lv_iload_n hC.1 hC.2.1 dL_advise_3 rfl (lv_at hl 1 rfl) ?_
  refine g_wcall hS (g_xrunV (n := 1) (rest := [.int 0, .ref (ad 34 0 0)]) (As := [.int a1]) (C := RX8) (T := TX8) (N := 2) hC hS hk0 rfl rfl (c_X8_advise l hlf G ks ad a1 V _ _ h _) (gI wq_954 wq_955 wq_956 wq_39 wq_957) rfl ⟨⟨by decide +kernel, by decide +kernel, by decide +kernel⟩, rfl, rfl, Nat.le_of_ble_eq_true rfl, Nat.le_of_ble_eq_true rfl⟩ rfl hl rfl (Nat.le_of_ble_eq_true rfl) dL_advise_4 ⟨Nat.le_of_ble_eq_true rfl, Nat.le_of_ble_eq_true rfl⟩) (fun n9 V1 H locs ce q9 h hS hcell hv hcl => ?_) (fun r V1 H locs h hS => ?_)
  · rcases h with ⟨rfl, h⟩ | ⟨rfl, h⟩
    · refine vx_catch (own := RL) hC.2.2.2.1 [] (⟨0, 9, 12, 21⟩ : ExceptionTableEntry) [(⟨0, 9, 15, 13⟩ : ExceptionTableEntry)] (htab.trans rfl) (fun z hz => by cases hz) (by decide) (by decide) (hC.2.2.2.2.1 _ wq_488) (cast_2 hC) hcell hv hcl ?_
      refine W.widen (k := 2) (n := 12) (Nat.le_of_ble_eq_true rfl) (Nat.le_of_ble_eq_true rfl) ?_
      refine lv_astore_n (lv' := [(3, .ref q9), (0, .ref (ad 0 0 0)), (1, .int a1), (2, .ref (ad 34 0 0))]) hC.1 hC.2.1 dL_advise_12 rfl hl (by decide) rfl (fun ls hl => ?_)
      refine lv_iconst (v := 1) hC.1 hC.2.1 dL_advise_13 (by decide) ?_
      exact g_iret hC hr hlk hS h dL_advise_14
    · refine vx_catch (own := RL) hC.2.2.2.1 [(⟨0, 9, 12, 21⟩ : ExceptionTableEntry)] (⟨0, 9, 15, 13⟩ : ExceptionTableEntry) [] (htab.trans rfl) (fun z hz => Or.inr (by rw [List.mem_singleton.mp hz]; exact ⟨by decide, _, hC.2.2.2.2.1 _ wq_488, nc_32 hC⟩)) (by decide) (by decide) (hC.2.2.2.2.1 _ wq_333) (cast_3 hC) hcell hv hcl ?_
      refine W.widen (k := 2) (n := 12) (Nat.le_of_ble_eq_true rfl) (Nat.le_of_ble_eq_true rfl) ?_
      refine lv_astore_n (lv' := [(3, .ref q9), (0, .ref (ad 0 0 0)), (1, .int a1), (2, .ref (ad 34 0 0))]) hC.1 hC.2.1 dL_advise_15 rfl hl (by decide) rfl (fun ls hl => ?_)
      refine lv_iconst (v := 2) hC.1 hC.2.1 dL_advise_16 (by decide) ?_
      exact g_iret hC hr hlk hS h dL_advise_17
  · refine W.widen (k := 2) (n := 12) (Nat.le_of_ble_eq_true rfl) (Nat.le_of_ble_eq_true rfl) ?_
    refine lv_i2l hC.1 hC.2.1 dL_advise_7 rfl ?_
    refine g_out hC hS hk34 dL_advise_8 (fun H locs hS => ?_)
    refine lv_goto (tgt := 18) hC.1 hC.2.1 dL_advise_9 (by decide) ?_
    refine lv_iconst (v := 0) hC.1 hC.2.1 dL_advise_18 (by decide) ?_
    exact g_iret hC hr hlk hS h dL_advise_19
