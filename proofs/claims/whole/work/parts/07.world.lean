def wp_X7_changeRain (ks : List KY) (w : Nat) (a1 : Int32) (a2 : Int32) (V : VS) (post : Int32 → VS → Prop) : Prop := ((a1 < 0 → (post 0 V)) ∧ (¬ (a1 < 0) → ((1, w, 0) ∈ ks ∧ (14, w, 0) ∈ ks ∧ (a1 < 7 → (vp_in a1 7 ∧ ∀ y4 : Int32, y4 = V 14 w 0 0 a1.toNatClampNeg → ∀ V5 : VS, V5 = vup V 14 w 0 0 a1.toNatClampNeg a2 → post y4 V5)) ∧ (¬ (a1 < 7) → (post 0 V)))))
set_option maxHeartbeats 4000000 in
set_option maxRecDepth 100000 in
theorem c_X7_changeRain (l : Launch) (G : GG) (ks : List KY) (ad : AD) (w : Nat) (a1 : Int32) (a2 : Int32) (V : VS) (post : Int32 → VS → Prop) (h : wp_X7_changeRain ks w a1 a2 V post) (sz : Nat) : Met l yX7_changeRain (ws_ yX7_changeRain cX7_changeRain 4 (some .int)) ({ frames := 0, cells := 0, slots := 0, locals := 0 }) (mPc [.ref (ad 1 w 0), .int a1, .int a2] G ks ad V sz) (mQi post G ks ad sz) 0 0 (mA ks ad sz) := by
  refine g_met (own := RX7) (by decide) rfl (Nat.le_of_ble_eq_true rfl) ?_
  intro p e s m args below meth c ls hC hsz hr hlk hin hS ha hl
  have hl : lv_has ls 4 [(0, .ref (ad 1 w 0)), (1, .int a1), (2, .int a2)] := hl
  unfold wp_X7_changeRain at h
  refine lv_iload_n hC.1 hC.2.1 dX7_changeRain_0 rfl (lv_at hl 1 rfl) ?_
  refine lv_if_lt (tgt := 13) hC.1 hC.2.1 dX7_changeRain_1 (by decide) (fun c7 => ?_) (fun c7 => ?_)
  · have h := h.1 c7
    refine lv_iconst (v := 0) hC.1 hC.2.1 dX7_changeRain_13 (by decide) ?_
    exact g_iret hC hr hlk hS h dX7_changeRain_14
  · have h := h.2 c7
    refine lv_iload_n hC.1 hC.2.1 dX7_changeRain_4 rfl (lv_at hl 1 rfl) ?_
    refine lv_aload_n hC.1 hC.2.1 dX7_changeRain_5 rfl (lv_at hl 0 rfl) ?_
    obtain ⟨hk1, h⟩ := h
    refine gf_1_6 hC hS hk1 wq_145 dX7_changeRain_6 ?_
    obtain ⟨hk2, h⟩ := h
    refine g_alen hC hS hk2 (by decide) dX7_changeRain_9 ?_
    refine W.eq (g2 := F0 m 10 ls [.int 7, .int a1]) rfl ?_
    refine lv_icmp_lt (tgt := 15) hC.1 hC.2.1 dX7_changeRain_10 (by decide) (fun c6 => ?_) (fun c6 => ?_)
    · have h := h.1 c6
      refine lv_aload_n hC.1 hC.2.1 dX7_changeRain_15 rfl (lv_at hl 0 rfl) ?_
      refine gf_1_6 hC hS hk1 wq_145 dX7_changeRain_16 ?_
      refine lv_iload_n hC.1 hC.2.1 dX7_changeRain_19 rfl (lv_at hl 1 rfl) ?_
      obtain ⟨hx3, h⟩ := h
      refine g_iald hC hS hk2 (by decide) hx3 dX7_changeRain_20 ?_
      refine lv_topi (fun y4 ey4 => ?_)
      have h := h y4 ey4
      refine lv_istore_n (lv' := [(3, .int y4), (0, .ref (ad 1 w 0)), (1, .int a1), (2, .int a2)]) hC.1 hC.2.1 dX7_changeRain_21 rfl hl (by decide) rfl (fun ls hl => ?_)
      refine lv_aload_n hC.1 hC.2.1 dX7_changeRain_22 rfl (lv_at hl 1 rfl) ?_
      refine gf_1_6 hC hS hk1 wq_145 dX7_changeRain_23 ?_
      refine lv_iload_n hC.1 hC.2.1 dX7_changeRain_26 rfl (lv_at hl 2 rfl) ?_
      refine lv_iload_n hC.1 hC.2.1 dX7_changeRain_27 rfl (lv_at hl 3 rfl) ?_
      refine g_iast hC hS hk2 (by decide) hx3 dX7_changeRain_28 (fun H locs hS => ?_)
      obtain ⟨V5, eV5⟩ : ∃ z : VS, z = vup V 14 w 0 0 a1.toNatClampNeg a2 := ⟨_, rfl⟩
      rw [← eV5] at hS
      have h := h V5 eV5
      refine lv_iload_n hC.1 hC.2.1 dX7_changeRain_29 rfl (lv_at hl 0 rfl) ?_
      exact g_iret hC hr hlk hS h dX7_changeRain_30
    · have h := h.2 c6
      refine lv_iconst (v := 0) hC.1 hC.2.1 dX7_changeRain_13 (by decide) ?_
      exact g_iret hC hr hlk hS h dX7_changeRain_14
def wp_X7_rainOf (ks : List KY) (w : Nat) (a1 : Int32) (V : VS) (post : Int32 → VS → Prop) : Prop := ((a1 < 0 → (post 0 V)) ∧ (¬ (a1 < 0) → ((1, w, 0) ∈ ks ∧ (14, w, 0) ∈ ks ∧ ((7 : Int32) ≤ a1 → (post 0 V)) ∧ (¬ ((7 : Int32) ≤ a1) → (vp_in a1 7 ∧ post (V 14 w 0 0 a1.toNatClampNeg) V)))))
set_option maxHeartbeats 4000000 in
set_option maxRecDepth 100000 in
theorem c_X7_rainOf (l : Launch) (G : GG) (ks : List KY) (ad : AD) (w : Nat) (a1 : Int32) (V : VS) (post : Int32 → VS → Prop) (h : wp_X7_rainOf ks w a1 V post) (sz : Nat) : Met l yX7_rainOf (ws_ yX7_rainOf cX7_rainOf 2 (some .int)) ({ frames := 0, cells := 0, slots := 0, locals := 0 }) (mPc [.ref (ad 1 w 0), .int a1] G ks ad V sz) (mQi post G ks ad sz) 0 0 (mA ks ad sz) := by
  refine g_met (own := RX7) (by decide) rfl (Nat.le_of_ble_eq_true rfl) ?_
  intro p e s m args below meth c ls hC hsz hr hlk hin hS ha hl
  have hl : lv_has ls 2 [(0, .ref (ad 1 w 0)), (1, .int a1)] := hl
  unfold wp_X7_rainOf at h
  refine lv_iload_n hC.1 hC.2.1 dX7_rainOf_0 rfl (lv_at hl 1 rfl) ?_
  refine lv_if_lt (tgt := 22) hC.1 hC.2.1 dX7_rainOf_1 (by decide) (fun c5 => ?_) (fun c5 => ?_)
  · have h := h.1 c5
    refine lv_iconst (v := 0) hC.1 hC.2.1 dX7_rainOf_22 (by decide) ?_
    exact g_iret hC hr hlk hS h dX7_rainOf_23
  · have h := h.2 c5
    refine lv_iload_n hC.1 hC.2.1 dX7_rainOf_4 rfl (lv_at hl 1 rfl) ?_
    refine lv_aload_n hC.1 hC.2.1 dX7_rainOf_5 rfl (lv_at hl 0 rfl) ?_
    obtain ⟨hk1, h⟩ := h
    refine gf_1_6 hC hS hk1 wq_145 dX7_rainOf_6 ?_
    obtain ⟨hk2, h⟩ := h
    refine g_alen hC hS hk2 (by decide) dX7_rainOf_9 ?_
    refine W.eq (g2 := F0 m 10 ls [.int 7, .int a1]) rfl ?_
    refine lv_icmp_ge (tgt := 22) hC.1 hC.2.1 dX7_rainOf_10 (by decide) (fun c4 => ?_) (fun c4 => ?_)
    · have h := h.1 c4
      refine lv_iconst (v := 0) hC.1 hC.2.1 dX7_rainOf_22 (by decide) ?_
      exact g_iret hC hr hlk hS h dX7_rainOf_23
    · have h := h.2 c4
      refine lv_aload_n hC.1 hC.2.1 dX7_rainOf_13 rfl (lv_at hl 0 rfl) ?_
      refine gf_1_6 hC hS hk1 wq_145 dX7_rainOf_14 ?_
      refine lv_iload_n hC.1 hC.2.1 dX7_rainOf_17 rfl (lv_at hl 1 rfl) ?_
      obtain ⟨hx3, h⟩ := h
      refine g_iald hC hS hk2 (by decide) hx3 dX7_rainOf_18 ?_
      refine lv_goto (tgt := 23) hC.1 hC.2.1 dX7_rainOf_19 (by decide) ?_
      exact g_iret hC hr hlk hS h dX7_rainOf_23
def wp_X7_minutesOfWay (ks : List KY) (w : Nat) (a1 : Int32) (a2 : Int32) (V : VS) (post : Int32 → VS → Prop) : Prop := ((1, w, 0) ∈ ks ∧ (2, w, 0) ∈ ks ∧ (10, w, 0) ∈ ks ∧ wp_X6_measure ks w w (V 2 w 0 2 0) V (fun V3 => (wp_X6_time ks w a1 a2 V3 (fun r6 V5 => (((1000000 : Int32) ≤ r6 → (post (-1) V5)) ∧ (¬ ((1000000 : Int32) ≤ r6) → (post r6 V5)))))))
set_option maxHeartbeats 4000000 in
set_option maxRecDepth 100000 in
theorem c_X7_minutesOfWay (l : Launch) (G : GG) (ks : List KY) (ad : AD) (w : Nat) (a1 : Int32) (a2 : Int32) (V : VS) (post : Int32 → VS → Prop) (h : wp_X7_minutesOfWay ks w a1 a2 V post) (sz : Nat) : Met l yX7_minutesOfWay (ws_ yX7_minutesOfWay cX7_minutesOfWay 4 (some .int)) ({ frames := 4, cells := 0, slots := 0, locals := 90 }) (mPc [.ref (ad 1 w 0), .int a1, .int a2] G ks ad V sz) (mQi post G ks ad sz) 0 0 (mA ks ad sz) := by
  refine g_met (own := RX7) (by decide) rfl (Nat.le_of_ble_eq_true rfl) ?_
  intro p e s m args below meth c ls hC hsz hr hlk hin hS ha hl
  have hl : lv_has ls 4 [(0, .ref (ad 1 w 0)), (1, .int a1), (2, .int a2)] := hl
  unfold wp_X7_minutesOfWay at h
  refine lv_aload_n hC.1 hC.2.1 dX7_minutesOfWay_0 rfl (lv_at hl 0 rfl) ?_
  obtain ⟨hk1, h⟩ := h
  refine gf_1_4 hC hS hk1 wq_142 dX7_minutesOfWay_1 ?_
  refine lv_aload_n hC.1 hC.2.1 dX7_minutesOfWay_4 rfl (lv_at hl 0 rfl) ?_
  refine gf_1_0 hC hS hk1 wq_134 dX7_minutesOfWay_5 ?_
  obtain ⟨hk2, h⟩ := h
  refine g_lsize hC hS hk2 wq_183 hl ⟨Nat.le_of_ble_eq_true rfl, Nat.le_of_ble_eq_true rfl, Nat.zero_le _⟩ (Nat.le_of_ble_eq_true rfl) dX7_minutesOfWay_8 ⟨Nat.le_of_ble_eq_true rfl, Nat.le_of_ble_eq_true rfl⟩ (fun H locs hS => ?_)
  refine lv_aload_n hC.1 hC.2.1 dX7_minutesOfWay_11 rfl (lv_at hl 0 rfl) ?_
  refine gf_1_1 hC hS hk1 wq_136 dX7_minutesOfWay_12 ?_
  obtain ⟨hk4, h⟩ := h
  refine g_callv0 hS (g_runV (n := 2) (rest := []) (As := [.int (V 2 w 0 2 0), .ref (ad 2 w 1)]) (C := RX6) (T := TX6) (N := 1) hC hS hk4 rfl rfl (c_X6_measure l G ks ad w w (V 2 w 0 2 0) V _ h _) (gI wq_630 wq_631 wq_632 wq_44 wq_633) rfl ⟨⟨by decide +kernel, by decide +kernel, by decide +kernel⟩, rfl, rfl, Nat.le_of_ble_eq_true rfl, Nat.le_of_ble_eq_true rfl⟩ rfl hl rfl (Nat.le_of_ble_eq_true rfl) dX7_minutesOfWay_15 ⟨Nat.le_of_ble_eq_true rfl, Nat.le_of_ble_eq_true rfl⟩) (fun V3 H locs h hS => ?_)
  refine lv_aload_n hC.1 hC.2.1 dX7_minutesOfWay_18 rfl (lv_at hl 0 rfl) ?_
  refine gf_1_4 hC hS hk1 wq_142 dX7_minutesOfWay_19 ?_
  refine lv_iload_n hC.1 hC.2.1 dX7_minutesOfWay_22 rfl (lv_at hl 1 rfl) ?_
  refine lv_iload_n hC.1 hC.2.1 dX7_minutesOfWay_23 rfl (lv_at hl 2 rfl) ?_
  refine g_calli0 hS (g_runV (n := 2) (rest := []) (As := [.int a1, .int a2]) (C := RX6) (T := TX6) (N := 1) hC hS hk4 rfl rfl (c_X6_time l G ks ad w a1 a2 V3 _ h _) (gI wq_648 wq_645 wq_646 wq_44 wq_647) rfl ⟨⟨by decide +kernel, by decide +kernel, by decide +kernel⟩, rfl, rfl, Nat.le_of_ble_eq_true rfl, Nat.le_of_ble_eq_true rfl⟩ rfl hl rfl (Nat.le_of_ble_eq_true rfl) dX7_minutesOfWay_24 ⟨Nat.le_of_ble_eq_true rfl, Nat.le_of_ble_eq_true rfl⟩) (fun r6 V5 H locs h hS => ?_)
  refine lv_istore_n (lv' := [(3, .int r6), (0, .ref (ad 1 w 0)), (1, .int a1), (2, .int a2)]) hC.1 hC.2.1 dX7_minutesOfWay_27 rfl hl (by decide) rfl (fun ls hl => ?_)
  refine lv_iload_n hC.1 hC.2.1 dX7_minutesOfWay_28 rfl (lv_at hl 0 rfl) ?_
  refine lv_ldc hC.1 hC.2.1 hC.2.2.2.1 (hC.2.2.2.2.1 _ wq_649) dX7_minutesOfWay_29 ?_
  refine lv_icmp_ge (tgt := 38) hC.1 hC.2.1 dX7_minutesOfWay_31 (by decide) (fun c7 => ?_) (fun c7 => ?_)
  · have h := h.1 c7
    refine lv_iconst (v := (-1)) hC.1 hC.2.1 dX7_minutesOfWay_38 (by decide) ?_
    exact g_iret hC hr hlk hS h dX7_minutesOfWay_39
  · have h := h.2 c7
    refine lv_iload_n hC.1 hC.2.1 dX7_minutesOfWay_34 rfl (lv_at hl 0 rfl) ?_
    refine lv_goto (tgt := 39) hC.1 hC.2.1 dX7_minutesOfWay_35 (by decide) ?_
    exact g_iret hC hr hlk hS h dX7_minutesOfWay_39
def wp_X7_holderOf (ks : List KY) (w : Nat) (a1 : Int32) (V : VS) (post : Int32 → VS → Prop) : Prop := ((a1 < 0 → (post (-1) V)) ∧ (¬ (a1 < 0) → ((1, w, 0) ∈ ks ∧ (2, w, 2) ∈ ks ∧ ((V 2 w 2 2 0) ≤ a1 → (post (-1) V)) ∧ (¬ ((V 2 w 2 2 0) ≤ a1) → ((3, w, 2) ∈ ks ∧ lsz V w 2 ≤ 33 ∧ (¬ a1 < 0 ∧ a1 < V 2 w 2 2 0) ∧ ∀ j6 : Nat, j6 = a1.toNatClampNeg → (6, w, j6) ∈ ks ∧ post (V 6 w j6 3 0) V)))))
set_option maxHeartbeats 4000000 in
set_option maxRecDepth 100000 in
theorem c_X7_holderOf (l : Launch) (G : GG) (ks : List KY) (ad : AD) (w : Nat) (a1 : Int32) (V : VS) (post : Int32 → VS → Prop) (h : wp_X7_holderOf ks w a1 V post) (sz : Nat) : Met l yX7_holderOf (ws_ yX7_holderOf cX7_holderOf 2 (some .int)) ({ frames := 3, cells := 0, slots := 0, locals := 64 }) (mPc [.ref (ad 1 w 0), .int a1] G ks ad V sz) (mQi post G ks ad sz) 0 0 (mA ks ad sz) := by
  refine g_met (own := RX7) (by decide) rfl (Nat.le_of_ble_eq_true rfl) ?_
  intro p e s m args below meth c ls hC hsz hr hlk hin hS ha hl
  have hl : lv_has ls 2 [(0, .ref (ad 1 w 0)), (1, .int a1)] := hl
  unfold wp_X7_holderOf at h
  refine lv_iload_n hC.1 hC.2.1 dX7_holderOf_0 rfl (lv_at hl 1 rfl) ?_
  refine lv_if_lt (tgt := 32) hC.1 hC.2.1 dX7_holderOf_1 (by decide) (fun c9 => ?_) (fun c9 => ?_)
  · have h := h.1 c9
    refine lv_iconst (v := (-1)) hC.1 hC.2.1 dX7_holderOf_32 (by decide) ?_
    exact g_iret hC hr hlk hS h dX7_holderOf_33
  · have h := h.2 c9
    refine lv_iload_n hC.1 hC.2.1 dX7_holderOf_4 rfl (lv_at hl 1 rfl) ?_
    refine lv_aload_n hC.1 hC.2.1 dX7_holderOf_5 rfl (lv_at hl 0 rfl) ?_
    obtain ⟨hk1, h⟩ := h
    refine gf_1_2 hC hS hk1 wq_138 dX7_holderOf_6 ?_
    obtain ⟨hk2, h⟩ := h
    refine g_lsize hC hS hk2 wq_183 hl ⟨Nat.le_of_ble_eq_true rfl, Nat.le_of_ble_eq_true rfl, Nat.zero_le _⟩ (Nat.le_of_ble_eq_true rfl) dX7_holderOf_9 ⟨Nat.le_of_ble_eq_true rfl, Nat.le_of_ble_eq_true rfl⟩ (fun H locs hS => ?_)
    refine lv_icmp_ge (tgt := 32) hC.1 hC.2.1 dX7_holderOf_12 (by decide) (fun c8 => ?_) (fun c8 => ?_)
    · have h := h.1 c8
      refine lv_iconst (v := (-1)) hC.1 hC.2.1 dX7_holderOf_32 (by decide) ?_
      exact g_iret hC hr hlk hS h dX7_holderOf_33
    · have h := h.2 c8
      refine lv_aload_n hC.1 hC.2.1 dX7_holderOf_15 rfl (lv_at hl 0 rfl) ?_
      refine gf_1_2 hC hS hk1 wq_138 dX7_holderOf_16 ?_
      refine lv_iload_n hC.1 hC.2.1 dX7_holderOf_19 rfl (lv_at hl 1 rfl) ?_
      obtain ⟨hk3, h⟩ := h
      obtain ⟨hq4, h⟩ := h
      obtain ⟨hx5, h⟩ := h
      refine g_lget (E := 6) hC hS rfl hk2 hk3 hq4 hx5.1 hx5.2 wq_187 hl ⟨Nat.le_of_ble_eq_true rfl, Nat.le_of_ble_eq_true rfl, Nat.zero_le _⟩ (Nat.le_of_ble_eq_true rfl) dX7_holderOf_20 ⟨Nat.le_of_ble_eq_true rfl, Nat.le_of_ble_eq_true rfl⟩ (fun j6 ej6 H locs hS => ?_)
      have h := h j6 ej6
      obtain ⟨hk7, h⟩ := h
      refine g_cast hC hS hk7 rfl (show vwCl[1]? = some (RX0, TX0, 6) from rfl) wq_201 dX7_holderOf_23 ?_
      refine gn_6_3 hC hS hk7 wq_686 dX7_holderOf_26 ?_
      refine lv_goto (tgt := 33) hC.1 hC.2.1 dX7_holderOf_29 (by decide) ?_
      exact g_iret hC hr hlk hS h dX7_holderOf_33
def wb_X7_copyFrom_220 (ks : List KY) (w w1 : Nat) (post : VS → Prop) (V : VS) : Prop := ((1, w, 0) ∈ ks ∧ (1, w1, 0) ∈ ks ∧ (12, w, 0) ∈ ks ∧ wp_X5_copyFrom ks w w1 V (fun V3 => (wp_X8_copyRow ks 14 w1 0 14 w 0 V3 (fun V5 => (∀ V6 : VS, V6 = vup V5 1 w 0 7 0 (V5 1 w1 0 7 0) → ∀ V7 : VS, V7 = vup V6 1 w 0 8 0 (V6 1 w1 0 8 0) → post V7)))))
def wk_X7_copyFrom_167 (ks : List KY) (w w1 : Nat) (post : VS → Prop) (B167 : Int32 → VS → Prop) (x2 : Int32) (V : VS) : Prop := ((1, w, 0) ∈ ks ∧ (2, w, 3) ∈ ks ∧ ((V 2 w 3 2 0) ≤ x2 → wb_X7_copyFrom_220 ks w w1 post V) ∧ (¬ ((V 2 w 3 2 0) ≤ x2) → ((1, w1, 0) ∈ ks ∧ (2, w1, 3) ∈ ks ∧ ((V 2 w1 3 2 0) ≤ x2 → wb_X7_copyFrom_220 ks w w1 post V) ∧ (¬ ((V 2 w1 3 2 0) ≤ x2) → ((3, w, 3) ∈ ks ∧ lsz V w 3 ≤ 33 ∧ (¬ x2 < 0 ∧ x2 < V 2 w 3 2 0) ∧ ∀ j15 : Nat, j15 = x2.toNatClampNeg → (7, w, j15) ∈ ks ∧ (3, w1, 3) ∈ ks ∧ lsz V w1 3 ≤ 33 ∧ (¬ x2 < 0 ∧ x2 < V 2 w1 3 2 0) ∧ ∀ j20 : Nat, j20 = x2.toNatClampNeg → (7, w1, j20) ∈ ks ∧ wp_X4_copyFrom ks w j15 w1 j20 V (fun V22 => (∀ y23 : Int32, y23 = x2 + 1 → B167 y23 V22)))))))
def wl_X7_copyFrom_167 (ks : List KY) (w w1 : Nat) (post : VS → Prop) (x2 : Int32) (V : VS) : Prop := ∃ J : Nat → Int32 → VS → Prop, (∃ n, J n x2 V) ∧ ∀ (n : Nat) (x2 : Int32) (V : VS), J n x2 V → wk_X7_copyFrom_167 ks w w1 post (fun x2 V => ∃ n', n' < n ∧ J n' x2 V) x2 V
def wk_X7_copyFrom_112 (ks : List KY) (w w1 : Nat) (post : VS → Prop) (B112 : Int32 → VS → Prop) (x2 : Int32) (V : VS) : Prop := ((1, w, 0) ∈ ks ∧ (2, w, 2) ∈ ks ∧ ((V 2 w 2 2 0) ≤ x2 → (wl_X7_copyFrom_167 ks w w1 post 0 V)) ∧ (¬ ((V 2 w 2 2 0) ≤ x2) → ((1, w1, 0) ∈ ks ∧ (2, w1, 2) ∈ ks ∧ ((V 2 w1 2 2 0) ≤ x2 → (wl_X7_copyFrom_167 ks w w1 post 0 V)) ∧ (¬ ((V 2 w1 2 2 0) ≤ x2) → ((3, w, 2) ∈ ks ∧ lsz V w 2 ≤ 33 ∧ (¬ x2 < 0 ∧ x2 < V 2 w 2 2 0) ∧ ∀ j33 : Nat, j33 = x2.toNatClampNeg → (6, w, j33) ∈ ks ∧ (3, w1, 2) ∈ ks ∧ lsz V w1 2 ≤ 33 ∧ (¬ x2 < 0 ∧ x2 < V 2 w1 2 2 0) ∧ ∀ j38 : Nat, j38 = x2.toNatClampNeg → (6, w1, j38) ∈ ks ∧ wp_X0_copyFrom ks w j33 w1 j38 V (fun V40 => (∀ y41 : Int32, y41 = x2 + 1 → B112 y41 V40)))))))
def wl_X7_copyFrom_112 (ks : List KY) (w w1 : Nat) (post : VS → Prop) (x2 : Int32) (V : VS) : Prop := ∃ J : Nat → Int32 → VS → Prop, (∃ n, J n x2 V) ∧ ∀ (n : Nat) (x2 : Int32) (V : VS), J n x2 V → wk_X7_copyFrom_112 ks w w1 post (fun x2 V => ∃ n', n' < n ∧ J n' x2 V) x2 V
def wk_X7_copyFrom_57 (ks : List KY) (w w1 : Nat) (post : VS → Prop) (B57 : Int32 → VS → Prop) (x2 : Int32) (V : VS) : Prop := ((1, w, 0) ∈ ks ∧ (2, w, 1) ∈ ks ∧ ((V 2 w 1 2 0) ≤ x2 → (wl_X7_copyFrom_112 ks w w1 post 0 V)) ∧ (¬ ((V 2 w 1 2 0) ≤ x2) → ((1, w1, 0) ∈ ks ∧ (2, w1, 1) ∈ ks ∧ ((V 2 w1 1 2 0) ≤ x2 → (wl_X7_copyFrom_112 ks w w1 post 0 V)) ∧ (¬ ((V 2 w1 1 2 0) ≤ x2) → ((3, w, 1) ∈ ks ∧ lsz V w 1 ≤ 33 ∧ (¬ x2 < 0 ∧ x2 < V 2 w 1 2 0) ∧ ∀ j51 : Nat, j51 = x2.toNatClampNeg → (5, w, j51) ∈ ks ∧ (3, w1, 1) ∈ ks ∧ lsz V w1 1 ≤ 33 ∧ (¬ x2 < 0 ∧ x2 < V 2 w1 1 2 0) ∧ ∀ j56 : Nat, j56 = x2.toNatClampNeg → (5, w1, j56) ∈ ks ∧ wp_X2_copyFrom ks w j51 w1 j56 V (fun V58 => (∀ y59 : Int32, y59 = x2 + 1 → B57 y59 V58)))))))
def wl_X7_copyFrom_57 (ks : List KY) (w w1 : Nat) (post : VS → Prop) (x2 : Int32) (V : VS) : Prop := ∃ J : Nat → Int32 → VS → Prop, (∃ n, J n x2 V) ∧ ∀ (n : Nat) (x2 : Int32) (V : VS), J n x2 V → wk_X7_copyFrom_57 ks w w1 post (fun x2 V => ∃ n', n' < n ∧ J n' x2 V) x2 V
def wk_X7_copyFrom_2 (ks : List KY) (w w1 : Nat) (post : VS → Prop) (B2 : Int32 → VS → Prop) (x2 : Int32) (V : VS) : Prop := ((1, w, 0) ∈ ks ∧ (2, w, 0) ∈ ks ∧ ((V 2 w 0 2 0) ≤ x2 → (wl_X7_copyFrom_57 ks w w1 post 0 V)) ∧ (¬ ((V 2 w 0 2 0) ≤ x2) → ((1, w1, 0) ∈ ks ∧ (2, w1, 0) ∈ ks ∧ ((V 2 w1 0 2 0) ≤ x2 → (wl_X7_copyFrom_57 ks w w1 post 0 V)) ∧ (¬ ((V 2 w1 0 2 0) ≤ x2) → ((3, w, 0) ∈ ks ∧ lsz V w 0 ≤ 33 ∧ (¬ x2 < 0 ∧ x2 < V 2 w 0 2 0) ∧ ∀ j69 : Nat, j69 = x2.toNatClampNeg → (4, w, j69) ∈ ks ∧ (3, w1, 0) ∈ ks ∧ lsz V w1 0 ≤ 33 ∧ (¬ x2 < 0 ∧ x2 < V 2 w1 0 2 0) ∧ ∀ j74 : Nat, j74 = x2.toNatClampNeg → (4, w1, j74) ∈ ks ∧ wp_X1_copyFrom ks w j69 w1 j74 V (fun V76 => (∀ y77 : Int32, y77 = x2 + 1 → B2 y77 V76)))))))
def wl_X7_copyFrom_2 (ks : List KY) (w w1 : Nat) (post : VS → Prop) (x2 : Int32) (V : VS) : Prop := ∃ J : Nat → Int32 → VS → Prop, (∃ n, J n x2 V) ∧ ∀ (n : Nat) (x2 : Int32) (V : VS), J n x2 V → wk_X7_copyFrom_2 ks w w1 post (fun x2 V => ∃ n', n' < n ∧ J n' x2 V) x2 V
def wp_X7_copyFrom (ks : List KY) (w w1 : Nat) (V : VS) (post : VS → Prop) : Prop := (wl_X7_copyFrom_2 ks w w1 post 0 V)
set_option maxHeartbeats 4000000 in
set_option maxRecDepth 100000 in
theorem c_X7_copyFrom (l : Launch) (G : GG) (ks : List KY) (ad : AD) (w : Nat) (w1 : Nat) (V : VS) (post : VS → Prop) (h : wp_X7_copyFrom ks w w1 V post) (sz : Nat) : Met l yX7_copyFrom (ws_ yX7_copyFrom cX7_copyFrom 3 none) ({ frames := 3, cells := 0, slots := 0, locals := 64 }) (mPc [.ref (ad 1 w 0), .ref (ad 1 w1 0)] G ks ad V sz) (mQv post G ks ad sz) 0 0 (mA ks ad sz) := by
  refine g_met (own := RX7) (by decide) rfl (Nat.le_of_ble_eq_true rfl) ?_
  intro p e s m args below meth c ls hC hsz hr hlk hin hS ha hl
  have hl : lv_has ls 3 [(0, .ref (ad 1 w 0)), (1, .ref (ad 1 w1 0))] := hl
  unfold wp_X7_copyFrom at h
  have kT220 : ∀ (V : VS) (H : Heap) (locs : List Loc) (ls : Array Slot), wb_X7_copyFrom_220 ks w w1 post V → ST G ks ad V (mA ks ad sz) s.heap H locs → lv_has ls 3 [(0, .ref (ad 1 w 0)), (1, .ref (ad 1 w1 0))] → W p l e ({ frames := 3, cells := 0, slots := 0, locals := 64 } : Room) s m args below meth c H locs 0 0 (MQ below (mQv post G ks ad sz) args s 0 0 (mA ks ad sz)) (F0 m 220 ls []) := by
    intro V H locs ls h hS hl
    unfold wb_X7_copyFrom_220 at h
    refine lv_aload_n hC.1 hC.2.1 dX7_copyFrom_220 rfl (lv_at hl 0 rfl) ?_
    obtain ⟨hk1, h⟩ := h
    refine gf_1_5 hC hS hk1 wq_143 dX7_copyFrom_221 ?_
    refine lv_aload_n hC.1 hC.2.1 dX7_copyFrom_224 rfl (lv_at hl 1 rfl) ?_
    obtain ⟨hk2, h⟩ := h
    refine gf_1_5 hC hS hk2 wq_143 dX7_copyFrom_225 ?_
    obtain ⟨hk4, h⟩ := h
    refine g_callv0 hS (g_runV (n := 1) (rest := []) (As := [.ref (ad 12 w1 0)]) (C := RX5) (T := TX5) (N := 3) hC hS hk4 rfl rfl (c_X5_copyFrom l G ks ad w w1 V _ h _) (gI wq_928 wq_929 wq_930 wq_45 wq_931) rfl ⟨⟨by decide +kernel, by decide +kernel, by decide +kernel⟩, rfl, rfl, Nat.le_of_ble_eq_true rfl, Nat.le_of_ble_eq_true rfl⟩ rfl hl rfl (Nat.le_of_ble_eq_true rfl) dX7_copyFrom_228 ⟨Nat.le_of_ble_eq_true rfl, Nat.le_of_ble_eq_true rfl⟩) (fun V3 H locs h hS => ?_)
    refine lv_aload_n hC.1 hC.2.1 dX7_copyFrom_231 rfl (lv_at hl 1 rfl) ?_
    refine gf_1_6 hC hS hk2 wq_145 dX7_copyFrom_232 ?_
    refine lv_aload_n hC.1 hC.2.1 dX7_copyFrom_235 rfl (lv_at hl 0 rfl) ?_
    refine gf_1_6 hC hS hk1 wq_145 dX7_copyFrom_236 ?_
    refine g_callv0 hS (g_runSN (n := 2) (rest := []) (As := [.ref (ad 14 w1 0), .ref (ad 14 w 0)]) hC hS (c_X8_copyRow l G ks ad 14 w1 0 14 w 0 V3 _ h _) wq_933 wq_922 wq_39 wq_923 ⟨⟨by decide +kernel, by decide +kernel, by decide +kernel⟩, rfl, rfl, Nat.le_of_ble_eq_true rfl, Nat.le_of_ble_eq_true rfl⟩ rfl hl rfl (Nat.le_of_ble_eq_true rfl) dX7_copyFrom_239 ⟨Nat.le_of_ble_eq_true rfl, Nat.le_of_ble_eq_true rfl⟩) (fun V5 H locs h hS => ?_)
    refine lv_aload_n hC.1 hC.2.1 dX7_copyFrom_242 rfl (lv_at hl 0 rfl) ?_
    refine lv_aload_n hC.1 hC.2.1 dX7_copyFrom_243 rfl (lv_at hl 1 rfl) ?_
    refine gf_1_7 hC hS hk2 wq_146 dX7_copyFrom_244 ?_
    refine pf_1_7 hC hS hk1 wq_146 dX7_copyFrom_247 (fun H locs hS => ?_)
    obtain ⟨V6, eV6⟩ : ∃ z : VS, z = vup V5 1 w 0 7 0 (V5 1 w1 0 7 0) := ⟨_, rfl⟩
    rw [← eV6] at hS
    have h := h V6 eV6
    refine lv_aload_n hC.1 hC.2.1 dX7_copyFrom_250 rfl (lv_at hl 0 rfl) ?_
    refine lv_aload_n hC.1 hC.2.1 dX7_copyFrom_251 rfl (lv_at hl 1 rfl) ?_
    refine gf_1_8 hC hS hk2 wq_148 dX7_copyFrom_252 ?_
    refine pf_1_8 hC hS hk1 wq_148 dX7_copyFrom_255 (fun H locs hS => ?_)
    obtain ⟨V7, eV7⟩ : ∃ z : VS, z = vup V6 1 w 0 8 0 (V6 1 w1 0 8 0) := ⟨_, rfl⟩
    rw [← eV7] at hS
    have h := h V7 eV7
    exact g_vret hC hr hlk hS h dX7_copyFrom_258
  have kT167 : ∀ (x2 : Int32) (V : VS) (H : Heap) (locs : List Loc) (ls : Array Slot), wl_X7_copyFrom_167 ks w w1 post x2 V → ST G ks ad V (mA ks ad sz) s.heap H locs → lv_has ls 3 [(0, .ref (ad 1 w 0)), (1, .ref (ad 1 w1 0)), (2, .int x2)] → W p l e ({ frames := 3, cells := 0, slots := 0, locals := 64 } : Room) s m args below meth c H locs 0 0 (MQ below (mQv post G ks ad sz) args s 0 0 (mA ks ad sz)) (F0 m 167 ls []) := by
    intro x2 V H locs ls h hS hl
    obtain ⟨J, ⟨n, hJ⟩, hb⟩ := h
    induction n using Nat.strongRecOn generalizing x2 V H locs ls with
    | _ n ih =>
      have h := hb n x2 V hJ
      obtain ⟨B167, eB⟩ : ∃ z : Int32 → VS → Prop, z = (fun x2 V => ∃ n', n' < n ∧ J n' x2 V) := ⟨_, rfl⟩
      rw [← eB] at h
      have kB167 : ∀ (x2 : Int32) (V : VS) (H : Heap) (locs : List Loc) (ls : Array Slot), B167 x2 V → ST G ks ad V (mA ks ad sz) s.heap H locs → lv_has ls 3 [(0, .ref (ad 1 w 0)), (1, .ref (ad 1 w1 0)), (2, .int x2)] → W p l e ({ frames := 3, cells := 0, slots := 0, locals := 64 } : Room) s m args below meth c H locs 0 0 (MQ below (mQv post G ks ad sz) args s 0 0 (mA ks ad sz)) (F0 m 167 ls []) := by
        intro x2 V H locs ls h hS hl
        rw [eB] at h
        obtain ⟨n', hn, hJ'⟩ := h
        exact ih n' hn _ _ _ _ _ hS hl hJ'
      clear ih hJ hb eB
      unfold wk_X7_copyFrom_167 at h
      refine lv_iload_n hC.1 hC.2.1 dX7_copyFrom_167 rfl (lv_at hl 2 rfl) ?_
      refine lv_aload_n hC.1 hC.2.1 dX7_copyFrom_168 rfl (lv_at hl 0 rfl) ?_
      obtain ⟨hk8, h⟩ := h
      refine gf_1_3 hC hS hk8 wq_140 dX7_copyFrom_169 ?_
      obtain ⟨hk9, h⟩ := h
      refine g_lsize hC hS hk9 wq_183 hl ⟨Nat.le_of_ble_eq_true rfl, Nat.le_of_ble_eq_true rfl, Nat.zero_le _⟩ (Nat.le_of_ble_eq_true rfl) dX7_copyFrom_172 ⟨Nat.le_of_ble_eq_true rfl, Nat.le_of_ble_eq_true rfl⟩ (fun H locs hS => ?_)
      refine lv_icmp_ge (tgt := 220) hC.1 hC.2.1 dX7_copyFrom_175 (by decide) (fun c25 => ?_) (fun c25 => ?_)
      · have h := h.1 c25
        exact kT220 _ _ _ _ h hS (lv_sub hl [0, 1] rfl)
      · have h := h.2 c25
        refine lv_iload_n hC.1 hC.2.1 dX7_copyFrom_178 rfl (lv_at hl 2 rfl) ?_
        refine lv_aload_n hC.1 hC.2.1 dX7_copyFrom_179 rfl (lv_at hl 1 rfl) ?_
        obtain ⟨hk10, h⟩ := h
        refine gf_1_3 hC hS hk10 wq_140 dX7_copyFrom_180 ?_
        obtain ⟨hk11, h⟩ := h
        refine g_lsize hC hS hk11 wq_183 hl ⟨Nat.le_of_ble_eq_true rfl, Nat.le_of_ble_eq_true rfl, Nat.zero_le _⟩ (Nat.le_of_ble_eq_true rfl) dX7_copyFrom_183 ⟨Nat.le_of_ble_eq_true rfl, Nat.le_of_ble_eq_true rfl⟩ (fun H locs hS => ?_)
        refine lv_icmp_ge (tgt := 220) hC.1 hC.2.1 dX7_copyFrom_186 (by decide) (fun c24 => ?_) (fun c24 => ?_)
        · have h := h.1 c24
          exact kT220 _ _ _ _ h hS (lv_sub hl [0, 1] rfl)
        · have h := h.2 c24
          refine lv_aload_n hC.1 hC.2.1 dX7_copyFrom_189 rfl (lv_at hl 0 rfl) ?_
          refine gf_1_3 hC hS hk8 wq_140 dX7_copyFrom_190 ?_
          refine lv_iload_n hC.1 hC.2.1 dX7_copyFrom_193 rfl (lv_at hl 2 rfl) ?_
          obtain ⟨hk12, h⟩ := h
          obtain ⟨hq13, h⟩ := h
          obtain ⟨hx14, h⟩ := h
          refine g_lget (E := 7) hC hS rfl hk9 hk12 hq13 hx14.1 hx14.2 wq_187 hl ⟨Nat.le_of_ble_eq_true rfl, Nat.le_of_ble_eq_true rfl, Nat.zero_le _⟩ (Nat.le_of_ble_eq_true rfl) dX7_copyFrom_194 ⟨Nat.le_of_ble_eq_true rfl, Nat.le_of_ble_eq_true rfl⟩ (fun j15 ej15 H locs hS => ?_)
          have h := h j15 ej15
          obtain ⟨hk16, h⟩ := h
          refine g_cast hC hS hk16 rfl (show vwCl[5]? = some (RX4, TX4, 8) from rfl) wq_228 dX7_copyFrom_197 ?_
          refine lv_aload_n hC.1 hC.2.1 dX7_copyFrom_200 rfl (lv_at hl 1 rfl) ?_
          refine gf_1_3 hC hS hk10 wq_140 dX7_copyFrom_201 ?_
          refine lv_iload_n hC.1 hC.2.1 dX7_copyFrom_204 rfl (lv_at hl 2 rfl) ?_
          obtain ⟨hk17, h⟩ := h
          obtain ⟨hq18, h⟩ := h
          obtain ⟨hx19, h⟩ := h
          refine g_lget (E := 7) hC hS rfl hk11 hk17 hq18 hx19.1 hx19.2 wq_187 hl ⟨Nat.le_of_ble_eq_true rfl, Nat.le_of_ble_eq_true rfl, Nat.zero_le _⟩ (Nat.le_of_ble_eq_true rfl) dX7_copyFrom_205 ⟨Nat.le_of_ble_eq_true rfl, Nat.le_of_ble_eq_true rfl⟩ (fun j20 ej20 H locs hS => ?_)
          have h := h j20 ej20
          obtain ⟨hk21, h⟩ := h
          refine g_cast hC hS hk21 rfl (show vwCl[5]? = some (RX4, TX4, 8) from rfl) wq_228 dX7_copyFrom_208 ?_
          refine g_callv0 hS (g_runV (n := 1) (rest := []) (As := [.ref (ad 7 w1 j20)]) (C := RX4) (T := TX4) (N := 8) hC hS hk16 rfl rfl (c_X4_copyFrom l G ks ad w j15 w1 j20 V _ h _) (gI wq_924 wq_925 wq_926 wq_64 wq_927) rfl ⟨⟨by decide +kernel, by decide +kernel, by decide +kernel⟩, rfl, rfl, Nat.le_of_ble_eq_true rfl, Nat.le_of_ble_eq_true rfl⟩ rfl hl rfl (Nat.le_of_ble_eq_true rfl) dX7_copyFrom_211 ⟨Nat.le_of_ble_eq_true rfl, Nat.le_of_ble_eq_true rfl⟩) (fun V22 H locs h hS => ?_)
          obtain ⟨y23, ey23⟩ : ∃ z : Int32, z = x2 + 1 := ⟨_, rfl⟩
          have h := h y23 ey23
          refine lv_iinc (v := y23) (lv' := [(2, .int y23), (0, .ref (ad 1 w 0)), (1, .ref (ad 1 w1 0))]) hC.1 hC.2.1 dX7_copyFrom_214 hl (k := 2) rfl (by rw [ey23]; rfl) (by decide) rfl (fun ls hl => ?_)
          refine lv_goto (tgt := 167) hC.1 hC.2.1 dX7_copyFrom_217 (by decide) ?_
          exact kB167 _ _ _ _ _ h hS (lv_sub hl [1, 2, 0] rfl)
  have kT112 : ∀ (x2 : Int32) (V : VS) (H : Heap) (locs : List Loc) (ls : Array Slot), wl_X7_copyFrom_112 ks w w1 post x2 V → ST G ks ad V (mA ks ad sz) s.heap H locs → lv_has ls 3 [(0, .ref (ad 1 w 0)), (1, .ref (ad 1 w1 0)), (2, .int x2)] → W p l e ({ frames := 3, cells := 0, slots := 0, locals := 64 } : Room) s m args below meth c H locs 0 0 (MQ below (mQv post G ks ad sz) args s 0 0 (mA ks ad sz)) (F0 m 112 ls []) := by
    intro x2 V H locs ls h hS hl
    obtain ⟨J, ⟨n, hJ⟩, hb⟩ := h
    induction n using Nat.strongRecOn generalizing x2 V H locs ls with
    | _ n ih =>
      have h := hb n x2 V hJ
      obtain ⟨B112, eB⟩ : ∃ z : Int32 → VS → Prop, z = (fun x2 V => ∃ n', n' < n ∧ J n' x2 V) := ⟨_, rfl⟩
      rw [← eB] at h
      have kB112 : ∀ (x2 : Int32) (V : VS) (H : Heap) (locs : List Loc) (ls : Array Slot), B112 x2 V → ST G ks ad V (mA ks ad sz) s.heap H locs → lv_has ls 3 [(0, .ref (ad 1 w 0)), (1, .ref (ad 1 w1 0)), (2, .int x2)] → W p l e ({ frames := 3, cells := 0, slots := 0, locals := 64 } : Room) s m args below meth c H locs 0 0 (MQ below (mQv post G ks ad sz) args s 0 0 (mA ks ad sz)) (F0 m 112 ls []) := by
        intro x2 V H locs ls h hS hl
        rw [eB] at h
        obtain ⟨n', hn, hJ'⟩ := h
        exact ih n' hn _ _ _ _ _ hS hl hJ'
      clear ih hJ hb eB
      unfold wk_X7_copyFrom_112 at h
      refine lv_iload_n hC.1 hC.2.1 dX7_copyFrom_112 rfl (lv_at hl 2 rfl) ?_
      refine lv_aload_n hC.1 hC.2.1 dX7_copyFrom_113 rfl (lv_at hl 0 rfl) ?_
      obtain ⟨hk26, h⟩ := h
      refine gf_1_2 hC hS hk26 wq_138 dX7_copyFrom_114 ?_
      obtain ⟨hk27, h⟩ := h
      refine g_lsize hC hS hk27 wq_183 hl ⟨Nat.le_of_ble_eq_true rfl, Nat.le_of_ble_eq_true rfl, Nat.zero_le _⟩ (Nat.le_of_ble_eq_true rfl) dX7_copyFrom_117 ⟨Nat.le_of_ble_eq_true rfl, Nat.le_of_ble_eq_true rfl⟩ (fun H locs hS => ?_)
      refine lv_icmp_ge (tgt := 165) hC.1 hC.2.1 dX7_copyFrom_120 (by decide) (fun c43 => ?_) (fun c43 => ?_)
      · have h := h.1 c43
        refine lv_iconst (v := 0) hC.1 hC.2.1 dX7_copyFrom_165 (by decide) ?_
        refine lv_istore_n (lv' := [(2, .int 0), (0, .ref (ad 1 w 0)), (1, .ref (ad 1 w1 0))]) hC.1 hC.2.1 dX7_copyFrom_166 rfl hl (by decide) rfl (fun ls hl => ?_)
        exact kT167 _ _ _ _ _ h hS (lv_sub hl [1, 2, 0] rfl)
      · have h := h.2 c43
        refine lv_iload_n hC.1 hC.2.1 dX7_copyFrom_123 rfl (lv_at hl 2 rfl) ?_
        refine lv_aload_n hC.1 hC.2.1 dX7_copyFrom_124 rfl (lv_at hl 1 rfl) ?_
        obtain ⟨hk28, h⟩ := h
        refine gf_1_2 hC hS hk28 wq_138 dX7_copyFrom_125 ?_
        obtain ⟨hk29, h⟩ := h
        refine g_lsize hC hS hk29 wq_183 hl ⟨Nat.le_of_ble_eq_true rfl, Nat.le_of_ble_eq_true rfl, Nat.zero_le _⟩ (Nat.le_of_ble_eq_true rfl) dX7_copyFrom_128 ⟨Nat.le_of_ble_eq_true rfl, Nat.le_of_ble_eq_true rfl⟩ (fun H locs hS => ?_)
        refine lv_icmp_ge (tgt := 165) hC.1 hC.2.1 dX7_copyFrom_131 (by decide) (fun c42 => ?_) (fun c42 => ?_)
        · have h := h.1 c42
          refine lv_iconst (v := 0) hC.1 hC.2.1 dX7_copyFrom_165 (by decide) ?_
          refine lv_istore_n (lv' := [(2, .int 0), (0, .ref (ad 1 w 0)), (1, .ref (ad 1 w1 0))]) hC.1 hC.2.1 dX7_copyFrom_166 rfl hl (by decide) rfl (fun ls hl => ?_)
          exact kT167 _ _ _ _ _ h hS (lv_sub hl [1, 2, 0] rfl)
        · have h := h.2 c42
          refine lv_aload_n hC.1 hC.2.1 dX7_copyFrom_134 rfl (lv_at hl 0 rfl) ?_
          refine gf_1_2 hC hS hk26 wq_138 dX7_copyFrom_135 ?_
          refine lv_iload_n hC.1 hC.2.1 dX7_copyFrom_138 rfl (lv_at hl 2 rfl) ?_
          obtain ⟨hk30, h⟩ := h
          obtain ⟨hq31, h⟩ := h
          obtain ⟨hx32, h⟩ := h
          refine g_lget (E := 6) hC hS rfl hk27 hk30 hq31 hx32.1 hx32.2 wq_187 hl ⟨Nat.le_of_ble_eq_true rfl, Nat.le_of_ble_eq_true rfl, Nat.zero_le _⟩ (Nat.le_of_ble_eq_true rfl) dX7_copyFrom_139 ⟨Nat.le_of_ble_eq_true rfl, Nat.le_of_ble_eq_true rfl⟩ (fun j33 ej33 H locs hS => ?_)
          have h := h j33 ej33
          obtain ⟨hk34, h⟩ := h
          refine g_cast hC hS hk34 rfl (show vwCl[1]? = some (RX0, TX0, 6) from rfl) wq_201 dX7_copyFrom_142 ?_
          refine lv_aload_n hC.1 hC.2.1 dX7_copyFrom_145 rfl (lv_at hl 1 rfl) ?_
          refine gf_1_2 hC hS hk28 wq_138 dX7_copyFrom_146 ?_
          refine lv_iload_n hC.1 hC.2.1 dX7_copyFrom_149 rfl (lv_at hl 2 rfl) ?_
          obtain ⟨hk35, h⟩ := h
          obtain ⟨hq36, h⟩ := h
          obtain ⟨hx37, h⟩ := h
          refine g_lget (E := 6) hC hS rfl hk29 hk35 hq36 hx37.1 hx37.2 wq_187 hl ⟨Nat.le_of_ble_eq_true rfl, Nat.le_of_ble_eq_true rfl, Nat.zero_le _⟩ (Nat.le_of_ble_eq_true rfl) dX7_copyFrom_150 ⟨Nat.le_of_ble_eq_true rfl, Nat.le_of_ble_eq_true rfl⟩ (fun j38 ej38 H locs hS => ?_)
          have h := h j38 ej38
          obtain ⟨hk39, h⟩ := h
          refine g_cast hC hS hk39 rfl (show vwCl[1]? = some (RX0, TX0, 6) from rfl) wq_201 dX7_copyFrom_153 ?_
          refine g_callv0 hS (g_runV (n := 1) (rest := []) (As := [.ref (ad 6 w1 j38)]) (C := RX0) (T := TX0) (N := 6) hC hS hk34 rfl rfl (c_X0_copyFrom l G ks ad w j33 w1 j38 V _ h _) (gI wq_913 wq_914 wq_915 wq_62 wq_916) rfl ⟨⟨by decide +kernel, by decide +kernel, by decide +kernel⟩, rfl, rfl, Nat.le_of_ble_eq_true rfl, Nat.le_of_ble_eq_true rfl⟩ rfl hl rfl (Nat.le_of_ble_eq_true rfl) dX7_copyFrom_156 ⟨Nat.le_of_ble_eq_true rfl, Nat.le_of_ble_eq_true rfl⟩) (fun V40 H locs h hS => ?_)
          obtain ⟨y41, ey41⟩ : ∃ z : Int32, z = x2 + 1 := ⟨_, rfl⟩
          have h := h y41 ey41
          refine lv_iinc (v := y41) (lv' := [(2, .int y41), (0, .ref (ad 1 w 0)), (1, .ref (ad 1 w1 0))]) hC.1 hC.2.1 dX7_copyFrom_159 hl (k := 2) rfl (by rw [ey41]; rfl) (by decide) rfl (fun ls hl => ?_)
          refine lv_goto (tgt := 112) hC.1 hC.2.1 dX7_copyFrom_162 (by decide) ?_
          exact kB112 _ _ _ _ _ h hS (lv_sub hl [1, 2, 0] rfl)
  have kT57 : ∀ (x2 : Int32) (V : VS) (H : Heap) (locs : List Loc) (ls : Array Slot), wl_X7_copyFrom_57 ks w w1 post x2 V → ST G ks ad V (mA ks ad sz) s.heap H locs → lv_has ls 3 [(0, .ref (ad 1 w 0)), (1, .ref (ad 1 w1 0)), (2, .int x2)] → W p l e ({ frames := 3, cells := 0, slots := 0, locals := 64 } : Room) s m args below meth c H locs 0 0 (MQ below (mQv post G ks ad sz) args s 0 0 (mA ks ad sz)) (F0 m 57 ls []) := by
    intro x2 V H locs ls h hS hl
    obtain ⟨J, ⟨n, hJ⟩, hb⟩ := h
    induction n using Nat.strongRecOn generalizing x2 V H locs ls with
    | _ n ih =>
      have h := hb n x2 V hJ
      obtain ⟨B57, eB⟩ : ∃ z : Int32 → VS → Prop, z = (fun x2 V => ∃ n', n' < n ∧ J n' x2 V) := ⟨_, rfl⟩
      rw [← eB] at h
      have kB57 : ∀ (x2 : Int32) (V : VS) (H : Heap) (locs : List Loc) (ls : Array Slot), B57 x2 V → ST G ks ad V (mA ks ad sz) s.heap H locs → lv_has ls 3 [(0, .ref (ad 1 w 0)), (1, .ref (ad 1 w1 0)), (2, .int x2)] → W p l e ({ frames := 3, cells := 0, slots := 0, locals := 64 } : Room) s m args below meth c H locs 0 0 (MQ below (mQv post G ks ad sz) args s 0 0 (mA ks ad sz)) (F0 m 57 ls []) := by
        intro x2 V H locs ls h hS hl
        rw [eB] at h
        obtain ⟨n', hn, hJ'⟩ := h
        exact ih n' hn _ _ _ _ _ hS hl hJ'
      clear ih hJ hb eB
      unfold wk_X7_copyFrom_57 at h
      refine lv_iload_n hC.1 hC.2.1 dX7_copyFrom_57 rfl (lv_at hl 2 rfl) ?_
      refine lv_aload_n hC.1 hC.2.1 dX7_copyFrom_58 rfl (lv_at hl 0 rfl) ?_
      obtain ⟨hk44, h⟩ := h
      refine gf_1_1 hC hS hk44 wq_136 dX7_copyFrom_59 ?_
      obtain ⟨hk45, h⟩ := h
      refine g_lsize hC hS hk45 wq_183 hl ⟨Nat.le_of_ble_eq_true rfl, Nat.le_of_ble_eq_true rfl, Nat.zero_le _⟩ (Nat.le_of_ble_eq_true rfl) dX7_copyFrom_62 ⟨Nat.le_of_ble_eq_true rfl, Nat.le_of_ble_eq_true rfl⟩ (fun H locs hS => ?_)
      refine lv_icmp_ge (tgt := 110) hC.1 hC.2.1 dX7_copyFrom_65 (by decide) (fun c61 => ?_) (fun c61 => ?_)
      · have h := h.1 c61
        refine lv_iconst (v := 0) hC.1 hC.2.1 dX7_copyFrom_110 (by decide) ?_
        refine lv_istore_n (lv' := [(2, .int 0), (0, .ref (ad 1 w 0)), (1, .ref (ad 1 w1 0))]) hC.1 hC.2.1 dX7_copyFrom_111 rfl hl (by decide) rfl (fun ls hl => ?_)
        exact kT112 _ _ _ _ _ h hS (lv_sub hl [1, 2, 0] rfl)
      · have h := h.2 c61
        refine lv_iload_n hC.1 hC.2.1 dX7_copyFrom_68 rfl (lv_at hl 2 rfl) ?_
        refine lv_aload_n hC.1 hC.2.1 dX7_copyFrom_69 rfl (lv_at hl 1 rfl) ?_
        obtain ⟨hk46, h⟩ := h
        refine gf_1_1 hC hS hk46 wq_136 dX7_copyFrom_70 ?_
        obtain ⟨hk47, h⟩ := h
        refine g_lsize hC hS hk47 wq_183 hl ⟨Nat.le_of_ble_eq_true rfl, Nat.le_of_ble_eq_true rfl, Nat.zero_le _⟩ (Nat.le_of_ble_eq_true rfl) dX7_copyFrom_73 ⟨Nat.le_of_ble_eq_true rfl, Nat.le_of_ble_eq_true rfl⟩ (fun H locs hS => ?_)
        refine lv_icmp_ge (tgt := 110) hC.1 hC.2.1 dX7_copyFrom_76 (by decide) (fun c60 => ?_) (fun c60 => ?_)
        · have h := h.1 c60
          refine lv_iconst (v := 0) hC.1 hC.2.1 dX7_copyFrom_110 (by decide) ?_
          refine lv_istore_n (lv' := [(2, .int 0), (0, .ref (ad 1 w 0)), (1, .ref (ad 1 w1 0))]) hC.1 hC.2.1 dX7_copyFrom_111 rfl hl (by decide) rfl (fun ls hl => ?_)
          exact kT112 _ _ _ _ _ h hS (lv_sub hl [1, 2, 0] rfl)
        · have h := h.2 c60
          refine lv_aload_n hC.1 hC.2.1 dX7_copyFrom_79 rfl (lv_at hl 0 rfl) ?_
          refine gf_1_1 hC hS hk44 wq_136 dX7_copyFrom_80 ?_
          refine lv_iload_n hC.1 hC.2.1 dX7_copyFrom_83 rfl (lv_at hl 2 rfl) ?_
          obtain ⟨hk48, h⟩ := h
          obtain ⟨hq49, h⟩ := h
          obtain ⟨hx50, h⟩ := h
          refine g_lget (E := 5) hC hS rfl hk45 hk48 hq49 hx50.1 hx50.2 wq_187 hl ⟨Nat.le_of_ble_eq_true rfl, Nat.le_of_ble_eq_true rfl, Nat.zero_le _⟩ (Nat.le_of_ble_eq_true rfl) dX7_copyFrom_84 ⟨Nat.le_of_ble_eq_true rfl, Nat.le_of_ble_eq_true rfl⟩ (fun j51 ej51 H locs hS => ?_)
          have h := h j51 ej51
          obtain ⟨hk52, h⟩ := h
          refine g_cast hC hS hk52 rfl (show vwCl[3]? = some (RX2, TX2, 5) from rfl) wq_233 dX7_copyFrom_87 ?_
          refine lv_aload_n hC.1 hC.2.1 dX7_copyFrom_90 rfl (lv_at hl 1 rfl) ?_
          refine gf_1_1 hC hS hk46 wq_136 dX7_copyFrom_91 ?_
          refine lv_iload_n hC.1 hC.2.1 dX7_copyFrom_94 rfl (lv_at hl 2 rfl) ?_
          obtain ⟨hk53, h⟩ := h
          obtain ⟨hq54, h⟩ := h
          obtain ⟨hx55, h⟩ := h
          refine g_lget (E := 5) hC hS rfl hk47 hk53 hq54 hx55.1 hx55.2 wq_187 hl ⟨Nat.le_of_ble_eq_true rfl, Nat.le_of_ble_eq_true rfl, Nat.zero_le _⟩ (Nat.le_of_ble_eq_true rfl) dX7_copyFrom_95 ⟨Nat.le_of_ble_eq_true rfl, Nat.le_of_ble_eq_true rfl⟩ (fun j56 ej56 H locs hS => ?_)
          have h := h j56 ej56
          obtain ⟨hk57, h⟩ := h
          refine g_cast hC hS hk57 rfl (show vwCl[3]? = some (RX2, TX2, 5) from rfl) wq_233 dX7_copyFrom_98 ?_
          refine g_callv0 hS (g_runV (n := 1) (rest := []) (As := [.ref (ad 5 w1 j56)]) (C := RX2) (T := TX2) (N := 5) hC hS hk52 rfl rfl (c_X2_copyFrom l G ks ad w j51 w1 j56 V _ h _) (gI wq_909 wq_910 wq_911 wq_59 wq_912) rfl ⟨⟨by decide +kernel, by decide +kernel, by decide +kernel⟩, rfl, rfl, Nat.le_of_ble_eq_true rfl, Nat.le_of_ble_eq_true rfl⟩ rfl hl rfl (Nat.le_of_ble_eq_true rfl) dX7_copyFrom_101 ⟨Nat.le_of_ble_eq_true rfl, Nat.le_of_ble_eq_true rfl⟩) (fun V58 H locs h hS => ?_)
          obtain ⟨y59, ey59⟩ : ∃ z : Int32, z = x2 + 1 := ⟨_, rfl⟩
          have h := h y59 ey59
          refine lv_iinc (v := y59) (lv' := [(2, .int y59), (0, .ref (ad 1 w 0)), (1, .ref (ad 1 w1 0))]) hC.1 hC.2.1 dX7_copyFrom_104 hl (k := 2) rfl (by rw [ey59]; rfl) (by decide) rfl (fun ls hl => ?_)
          refine lv_goto (tgt := 57) hC.1 hC.2.1 dX7_copyFrom_107 (by decide) ?_
          exact kB57 _ _ _ _ _ h hS (lv_sub hl [1, 2, 0] rfl)
  have kT2 : ∀ (x2 : Int32) (V : VS) (H : Heap) (locs : List Loc) (ls : Array Slot), wl_X7_copyFrom_2 ks w w1 post x2 V → ST G ks ad V (mA ks ad sz) s.heap H locs → lv_has ls 3 [(0, .ref (ad 1 w 0)), (1, .ref (ad 1 w1 0)), (2, .int x2)] → W p l e ({ frames := 3, cells := 0, slots := 0, locals := 64 } : Room) s m args below meth c H locs 0 0 (MQ below (mQv post G ks ad sz) args s 0 0 (mA ks ad sz)) (F0 m 2 ls []) := by
    intro x2 V H locs ls h hS hl
    obtain ⟨J, ⟨n, hJ⟩, hb⟩ := h
    induction n using Nat.strongRecOn generalizing x2 V H locs ls with
    | _ n ih =>
      have h := hb n x2 V hJ
      obtain ⟨B2, eB⟩ : ∃ z : Int32 → VS → Prop, z = (fun x2 V => ∃ n', n' < n ∧ J n' x2 V) := ⟨_, rfl⟩
      rw [← eB] at h
      have kB2 : ∀ (x2 : Int32) (V : VS) (H : Heap) (locs : List Loc) (ls : Array Slot), B2 x2 V → ST G ks ad V (mA ks ad sz) s.heap H locs → lv_has ls 3 [(0, .ref (ad 1 w 0)), (1, .ref (ad 1 w1 0)), (2, .int x2)] → W p l e ({ frames := 3, cells := 0, slots := 0, locals := 64 } : Room) s m args below meth c H locs 0 0 (MQ below (mQv post G ks ad sz) args s 0 0 (mA ks ad sz)) (F0 m 2 ls []) := by
        intro x2 V H locs ls h hS hl
        rw [eB] at h
        obtain ⟨n', hn, hJ'⟩ := h
        exact ih n' hn _ _ _ _ _ hS hl hJ'
      clear ih hJ hb eB
      unfold wk_X7_copyFrom_2 at h
      refine lv_iload_n hC.1 hC.2.1 dX7_copyFrom_2 rfl (lv_at hl 2 rfl) ?_
      refine lv_aload_n hC.1 hC.2.1 dX7_copyFrom_3 rfl (lv_at hl 0 rfl) ?_
      obtain ⟨hk62, h⟩ := h
      refine gf_1_0 hC hS hk62 wq_134 dX7_copyFrom_4 ?_
      obtain ⟨hk63, h⟩ := h
      refine g_lsize hC hS hk63 wq_183 hl ⟨Nat.le_of_ble_eq_true rfl, Nat.le_of_ble_eq_true rfl, Nat.zero_le _⟩ (Nat.le_of_ble_eq_true rfl) dX7_copyFrom_7 ⟨Nat.le_of_ble_eq_true rfl, Nat.le_of_ble_eq_true rfl⟩ (fun H locs hS => ?_)
      refine lv_icmp_ge (tgt := 55) hC.1 hC.2.1 dX7_copyFrom_10 (by decide) (fun c79 => ?_) (fun c79 => ?_)
      · have h := h.1 c79
        refine lv_iconst (v := 0) hC.1 hC.2.1 dX7_copyFrom_55 (by decide) ?_
        refine lv_istore_n (lv' := [(2, .int 0), (0, .ref (ad 1 w 0)), (1, .ref (ad 1 w1 0))]) hC.1 hC.2.1 dX7_copyFrom_56 rfl hl (by decide) rfl (fun ls hl => ?_)
        exact kT57 _ _ _ _ _ h hS (lv_sub hl [1, 2, 0] rfl)
      · have h := h.2 c79
        refine lv_iload_n hC.1 hC.2.1 dX7_copyFrom_13 rfl (lv_at hl 2 rfl) ?_
        refine lv_aload_n hC.1 hC.2.1 dX7_copyFrom_14 rfl (lv_at hl 1 rfl) ?_
        obtain ⟨hk64, h⟩ := h
        refine gf_1_0 hC hS hk64 wq_134 dX7_copyFrom_15 ?_
        obtain ⟨hk65, h⟩ := h
        refine g_lsize hC hS hk65 wq_183 hl ⟨Nat.le_of_ble_eq_true rfl, Nat.le_of_ble_eq_true rfl, Nat.zero_le _⟩ (Nat.le_of_ble_eq_true rfl) dX7_copyFrom_18 ⟨Nat.le_of_ble_eq_true rfl, Nat.le_of_ble_eq_true rfl⟩ (fun H locs hS => ?_)
        refine lv_icmp_ge (tgt := 55) hC.1 hC.2.1 dX7_copyFrom_21 (by decide) (fun c78 => ?_) (fun c78 => ?_)
        · have h := h.1 c78
          refine lv_iconst (v := 0) hC.1 hC.2.1 dX7_copyFrom_55 (by decide) ?_
          refine lv_istore_n (lv' := [(2, .int 0), (0, .ref (ad 1 w 0)), (1, .ref (ad 1 w1 0))]) hC.1 hC.2.1 dX7_copyFrom_56 rfl hl (by decide) rfl (fun ls hl => ?_)
          exact kT57 _ _ _ _ _ h hS (lv_sub hl [1, 2, 0] rfl)
        · have h := h.2 c78
          refine lv_aload_n hC.1 hC.2.1 dX7_copyFrom_24 rfl (lv_at hl 0 rfl) ?_
          refine gf_1_0 hC hS hk62 wq_134 dX7_copyFrom_25 ?_
          refine lv_iload_n hC.1 hC.2.1 dX7_copyFrom_28 rfl (lv_at hl 2 rfl) ?_
          obtain ⟨hk66, h⟩ := h
          obtain ⟨hq67, h⟩ := h
          obtain ⟨hx68, h⟩ := h
          refine g_lget (E := 4) hC hS rfl hk63 hk66 hq67 hx68.1 hx68.2 wq_187 hl ⟨Nat.le_of_ble_eq_true rfl, Nat.le_of_ble_eq_true rfl, Nat.zero_le _⟩ (Nat.le_of_ble_eq_true rfl) dX7_copyFrom_29 ⟨Nat.le_of_ble_eq_true rfl, Nat.le_of_ble_eq_true rfl⟩ (fun j69 ej69 H locs hS => ?_)
          have h := h j69 ej69
          obtain ⟨hk70, h⟩ := h
          refine g_cast hC hS hk70 rfl (show vwCl[2]? = some (RX1, TX1, 2) from rfl) wq_262 dX7_copyFrom_32 ?_
          refine lv_aload_n hC.1 hC.2.1 dX7_copyFrom_35 rfl (lv_at hl 1 rfl) ?_
          refine gf_1_0 hC hS hk64 wq_134 dX7_copyFrom_36 ?_
          refine lv_iload_n hC.1 hC.2.1 dX7_copyFrom_39 rfl (lv_at hl 2 rfl) ?_
          obtain ⟨hk71, h⟩ := h
          obtain ⟨hq72, h⟩ := h
          obtain ⟨hx73, h⟩ := h
          refine g_lget (E := 4) hC hS rfl hk65 hk71 hq72 hx73.1 hx73.2 wq_187 hl ⟨Nat.le_of_ble_eq_true rfl, Nat.le_of_ble_eq_true rfl, Nat.zero_le _⟩ (Nat.le_of_ble_eq_true rfl) dX7_copyFrom_40 ⟨Nat.le_of_ble_eq_true rfl, Nat.le_of_ble_eq_true rfl⟩ (fun j74 ej74 H locs hS => ?_)
          have h := h j74 ej74
          obtain ⟨hk75, h⟩ := h
          refine g_cast hC hS hk75 rfl (show vwCl[2]? = some (RX1, TX1, 2) from rfl) wq_262 dX7_copyFrom_43 ?_
          refine g_callv0 hS (g_runV (n := 1) (rest := []) (As := [.ref (ad 4 w1 j74)]) (C := RX1) (T := TX1) (N := 2) hC hS hk70 rfl rfl (c_X1_copyFrom l G ks ad w j69 w1 j74 V _ h _) (gI wq_905 wq_906 wq_907 wq_52 wq_908) rfl ⟨⟨by decide +kernel, by decide +kernel, by decide +kernel⟩, rfl, rfl, Nat.le_of_ble_eq_true rfl, Nat.le_of_ble_eq_true rfl⟩ rfl hl rfl (Nat.le_of_ble_eq_true rfl) dX7_copyFrom_46 ⟨Nat.le_of_ble_eq_true rfl, Nat.le_of_ble_eq_true rfl⟩) (fun V76 H locs h hS => ?_)
          obtain ⟨y77, ey77⟩ : ∃ z : Int32, z = x2 + 1 := ⟨_, rfl⟩
          have h := h y77 ey77
          refine lv_iinc (v := y77) (lv' := [(2, .int y77), (0, .ref (ad 1 w 0)), (1, .ref (ad 1 w1 0))]) hC.1 hC.2.1 dX7_copyFrom_49 hl (k := 2) rfl (by rw [ey77]; rfl) (by decide) rfl (fun ls hl => ?_)
          refine lv_goto (tgt := 2) hC.1 hC.2.1 dX7_copyFrom_52 (by decide) ?_
          exact kB2 _ _ _ _ _ h hS (lv_sub hl [1, 2, 0] rfl)
  refine lv_iconst (v := 0) hC.1 hC.2.1 dX7_copyFrom_0 (by decide) ?_
  refine lv_istore_n (lv' := [(2, .int 0), (0, .ref (ad 1 w 0)), (1, .ref (ad 1 w1 0))]) hC.1 hC.2.1 dX7_copyFrom_1 rfl hl (by decide) rfl (fun ls hl => ?_)
  exact kT2 _ _ _ _ _ h hS (lv_sub hl [1, 2, 0] rfl)
def wk_X7_weather_16 (ks : List KY) (w : Nat) (post : VS → Prop) (B16 : Int32 → VS → Prop) (x1 : Int32) (x2 : Int32) (V : VS) : Prop := ((1, w, 0) ∈ ks ∧ (2, w, 1) ∈ ks ∧ ((V 2 w 1 2 0) ≤ x2 → (post V)) ∧ (¬ ((V 2 w 1 2 0) ≤ x2) → ((3, w, 1) ∈ ks ∧ lsz V w 1 ≤ 33 ∧ (¬ x2 < 0 ∧ x2 < V 2 w 1 2 0) ∧ ∀ j6 : Nat, j6 = x2.toNatClampNeg → (5, w, j6) ∈ ks ∧ wp_X2_weather ks w j6 x1 V (fun V8 => (∀ y9 : Int32, y9 = x2 + 1 → B16 y9 V8)))))
def wl_X7_weather_16 (ks : List KY) (w : Nat) (post : VS → Prop) (x1 : Int32) (x2 : Int32) (V : VS) : Prop := ∃ J : Nat → Int32 → VS → Prop, (∃ n, J n x2 V) ∧ ∀ (n : Nat) (x2 : Int32) (V : VS), J n x2 V → wk_X7_weather_16 ks w post (fun x2 V => ∃ n', n' < n ∧ J n' x2 V) x1 x2 V
def wp_X7_weather (ks : List KY) (w : Nat) (V : VS) (post : VS → Prop) : Prop := ((1, w, 0) ∈ ks ∧ wp_J9_floorMod_7cf53 ks (V 1 w 0 7 0) 7 V (fun r13 V12 => (wp_X7_rainOf ks w r13 V12 (fun r15 V14 => (wl_X7_weather_16 ks w post r15 0 V14)))))
set_option maxHeartbeats 4000000 in
set_option maxRecDepth 100000 in
theorem c_X7_weather (l : Launch) (G : GG) (ks : List KY) (ad : AD) (w : Nat) (V : VS) (post : VS → Prop) (h : wp_X7_weather ks w V post) (sz : Nat) : Met l yX7_weather (ws_ yX7_weather cX7_weather 3 none) ({ frames := 3, cells := 0, slots := 0, locals := 64 }) (mPc [.ref (ad 1 w 0)] G ks ad V sz) (mQv post G ks ad sz) 0 0 (mA ks ad sz) := by
  refine g_met (own := RX7) (by decide) rfl (Nat.le_of_ble_eq_true rfl) ?_
  intro p e s m args below meth c ls hC hsz hr hlk hin hS ha hl
  have hl : lv_has ls 3 [(0, .ref (ad 1 w 0))] := hl
  unfold wp_X7_weather at h
  have kT16 : ∀ (x1 : Int32) (x2 : Int32) (V : VS) (H : Heap) (locs : List Loc) (ls : Array Slot), wl_X7_weather_16 ks w post x1 x2 V → ST G ks ad V (mA ks ad sz) s.heap H locs → lv_has ls 3 [(0, .ref (ad 1 w 0)), (1, .int x1), (2, .int x2)] → W p l e ({ frames := 3, cells := 0, slots := 0, locals := 64 } : Room) s m args below meth c H locs 0 0 (MQ below (mQv post G ks ad sz) args s 0 0 (mA ks ad sz)) (F0 m 16 ls []) := by
    intro x1 x2 V H locs ls h hS hl
    obtain ⟨J, ⟨n, hJ⟩, hb⟩ := h
    induction n using Nat.strongRecOn generalizing x2 V H locs ls with
    | _ n ih =>
      have h := hb n x2 V hJ
      obtain ⟨B16, eB⟩ : ∃ z : Int32 → VS → Prop, z = (fun x2 V => ∃ n', n' < n ∧ J n' x2 V) := ⟨_, rfl⟩
      rw [← eB] at h
      have kB16 : ∀ (x2 : Int32) (V : VS) (H : Heap) (locs : List Loc) (ls : Array Slot), B16 x2 V → ST G ks ad V (mA ks ad sz) s.heap H locs → lv_has ls 3 [(0, .ref (ad 1 w 0)), (1, .int x1), (2, .int x2)] → W p l e ({ frames := 3, cells := 0, slots := 0, locals := 64 } : Room) s m args below meth c H locs 0 0 (MQ below (mQv post G ks ad sz) args s 0 0 (mA ks ad sz)) (F0 m 16 ls []) := by
        intro x2 V H locs ls h hS hl
        rw [eB] at h
        obtain ⟨n', hn, hJ'⟩ := h
        exact ih n' hn _ _ _ _ _ hS hl hJ'
      clear ih hJ hb eB
      unfold wk_X7_weather_16 at h
      refine lv_iload_n hC.1 hC.2.1 dX7_weather_16 rfl (lv_at hl 2 rfl) ?_
      refine lv_aload_n hC.1 hC.2.1 dX7_weather_17 rfl (lv_at hl 0 rfl) ?_
      obtain ⟨hk1, h⟩ := h
      refine gf_1_1 hC hS hk1 wq_136 dX7_weather_18 ?_
      obtain ⟨hk2, h⟩ := h
      refine g_lsize hC hS hk2 wq_183 hl ⟨Nat.le_of_ble_eq_true rfl, Nat.le_of_ble_eq_true rfl, Nat.zero_le _⟩ (Nat.le_of_ble_eq_true rfl) dX7_weather_21 ⟨Nat.le_of_ble_eq_true rfl, Nat.le_of_ble_eq_true rfl⟩ (fun H locs hS => ?_)
      refine lv_icmp_ge (tgt := 48) hC.1 hC.2.1 dX7_weather_24 (by decide) (fun c10 => ?_) (fun c10 => ?_)
      · have h := h.1 c10
        exact g_vret hC hr hlk hS h dX7_weather_48
      · have h := h.2 c10
        refine lv_aload_n hC.1 hC.2.1 dX7_weather_27 rfl (lv_at hl 0 rfl) ?_
        refine gf_1_1 hC hS hk1 wq_136 dX7_weather_28 ?_
        refine lv_iload_n hC.1 hC.2.1 dX7_weather_31 rfl (lv_at hl 2 rfl) ?_
        obtain ⟨hk3, h⟩ := h
        obtain ⟨hq4, h⟩ := h
        obtain ⟨hx5, h⟩ := h
        refine g_lget (E := 5) hC hS rfl hk2 hk3 hq4 hx5.1 hx5.2 wq_187 hl ⟨Nat.le_of_ble_eq_true rfl, Nat.le_of_ble_eq_true rfl, Nat.zero_le _⟩ (Nat.le_of_ble_eq_true rfl) dX7_weather_32 ⟨Nat.le_of_ble_eq_true rfl, Nat.le_of_ble_eq_true rfl⟩ (fun j6 ej6 H locs hS => ?_)
        have h := h j6 ej6
        obtain ⟨hk7, h⟩ := h
        refine g_cast hC hS hk7 rfl (show vwCl[3]? = some (RX2, TX2, 5) from rfl) wq_233 dX7_weather_35 ?_
        refine lv_iload_n hC.1 hC.2.1 dX7_weather_38 rfl (lv_at hl 1 rfl) ?_
        refine g_callv0 hS (g_runV (n := 1) (rest := []) (As := [.int x1]) (C := RX2) (T := TX2) (N := 5) hC hS hk7 rfl rfl (c_X2_weather l G ks ad w j6 x1 V _ h _) (gI wq_839 wq_840 wq_841 wq_59 wq_842) rfl ⟨⟨by decide +kernel, by decide +kernel, by decide +kernel⟩, rfl, rfl, Nat.le_of_ble_eq_true rfl, Nat.le_of_ble_eq_true rfl⟩ rfl hl rfl (Nat.le_of_ble_eq_true rfl) dX7_weather_39 ⟨Nat.le_of_ble_eq_true rfl, Nat.le_of_ble_eq_true rfl⟩) (fun V8 H locs h hS => ?_)
        obtain ⟨y9, ey9⟩ : ∃ z : Int32, z = x2 + 1 := ⟨_, rfl⟩
        have h := h y9 ey9
        refine lv_iinc (v := y9) (lv' := [(2, .int y9), (0, .ref (ad 1 w 0)), (1, .int x1)]) hC.1 hC.2.1 dX7_weather_42 hl (k := 2) rfl (by rw [ey9]; rfl) (by decide) rfl (fun ls hl => ?_)
        refine lv_goto (tgt := 16) hC.1 hC.2.1 dX7_weather_45 (by decide) ?_
        exact kB16 _ _ _ _ _ h hS (lv_sub hl [1, 2, 0] rfl)
  refine lv_aload_n hC.1 hC.2.1 dX7_weather_0 rfl (lv_at hl 0 rfl) ?_
  refine lv_aload_n hC.1 hC.2.1 dX7_weather_1 rfl (lv_at hl 0 rfl) ?_
  obtain ⟨hk11, h⟩ := h
  refine gf_1_7 hC hS hk11 wq_146 dX7_weather_2 ?_
  refine lv_bipush (v := 7) hC.1 hC.2.1 dX7_weather_5 (by decide) ?_
  refine g_calli0 hS (g_runS (n := 2) (rest := [.ref (ad 1 w 0)]) (As := [.int (V 1 w 0 7 0), .int 7]) hC hS (c_J9_floorMod_7cf53 l G ks ad (V 1 w 0 7 0) 7 V _ h _) (gIS wq_836 wq_837 wq_54 wq_838) ⟨⟨by decide +kernel, by decide +kernel, by decide +kernel⟩, rfl, rfl, Nat.le_of_ble_eq_true rfl, Nat.le_of_ble_eq_true rfl⟩ rfl hl rfl (Nat.le_of_ble_eq_true rfl) dX7_weather_7 ⟨Nat.le_of_ble_eq_true rfl, Nat.le_of_ble_eq_true rfl⟩) (fun r13 V12 H locs h hS => ?_)
  refine g_calli0 hS (g_runV (n := 1) (rest := []) (As := [.int r13]) (C := RX7) (T := TX7) (N := 9) hC hS hk11 rfl rfl (c_X7_rainOf l G ks ad w r13 V12 _ h _) (gI wq_242 wq_244 wq_1 wq_40 wq_245) rfl ⟨⟨by decide +kernel, by decide +kernel, by decide +kernel⟩, rfl, rfl, Nat.le_of_ble_eq_true rfl, Nat.le_of_ble_eq_true rfl⟩ rfl hl rfl (Nat.le_of_ble_eq_true rfl) dX7_weather_10 ⟨Nat.le_of_ble_eq_true rfl, Nat.le_of_ble_eq_true rfl⟩) (fun r15 V14 H locs h hS => ?_)
  refine lv_istore_n (lv' := [(1, .int r15), (0, .ref (ad 1 w 0))]) hC.1 hC.2.1 dX7_weather_13 rfl hl (by decide) rfl (fun ls hl => ?_)
  refine lv_iconst (v := 0) hC.1 hC.2.1 dX7_weather_14 (by decide) ?_
  refine lv_istore_n (lv' := [(2, .int 0), (1, .int r15), (0, .ref (ad 1 w 0))]) hC.1 hC.2.1 dX7_weather_15 rfl hl (by decide) rfl (fun ls hl => ?_)
  exact kT16 _ _ _ _ _ _ h hS (lv_sub hl [2, 1, 0] rfl)
def wp_X7_noteVisit (ks : List KY) (w : Nat) (a1 : Int32) (a2 : Int32) (V : VS) (post : VS → Prop) : Prop := ((a1 < 0 → (post V)) ∧ (¬ (a1 < 0) → ((1, w, 0) ∈ ks ∧ (2, w, 0) ∈ ks ∧ (a1 < (V 2 w 0 2 0) → ((3, w, 0) ∈ ks ∧ lsz V w 0 ≤ 33 ∧ (¬ a1 < 0 ∧ a1 < V 2 w 0 2 0) ∧ ∀ j6 : Nat, j6 = a1.toNatClampNeg → (4, w, j6) ∈ ks ∧ (a2 = 0 → (∀ V8 : VS, V8 = vup V 4 w j6 1 0 ((V 4 w j6 1 0) + 1) → post V8)) ∧ (¬ (a2 = 0) → (∀ V9 : VS, V9 = vup V 4 w j6 0 0 ((V 4 w j6 0 0) + 1) → post V9)))) ∧ (¬ (a1 < (V 2 w 0 2 0)) → (post V)))))
set_option maxHeartbeats 4000000 in
set_option maxRecDepth 100000 in
theorem c_X7_noteVisit (l : Launch) (G : GG) (ks : List KY) (ad : AD) (w : Nat) (a1 : Int32) (a2 : Int32) (V : VS) (post : VS → Prop) (h : wp_X7_noteVisit ks w a1 a2 V post) (sz : Nat) : Met l yX7_noteVisit (ws_ yX7_noteVisit cX7_noteVisit 4 none) ({ frames := 3, cells := 0, slots := 0, locals := 64 }) (mPc [.ref (ad 1 w 0), .int a1, .int a2] G ks ad V sz) (mQv post G ks ad sz) 0 0 (mA ks ad sz) := by
  refine g_met (own := RX7) (by decide) rfl (Nat.le_of_ble_eq_true rfl) ?_
  intro p e s m args below meth c ls hC hsz hr hlk hin hS ha hl
  have hl : lv_has ls 4 [(0, .ref (ad 1 w 0)), (1, .int a1), (2, .int a2)] := hl
  unfold wp_X7_noteVisit at h
  refine lv_iload_n hC.1 hC.2.1 dX7_noteVisit_0 rfl (lv_at hl 1 rfl) ?_
  refine lv_if_lt (tgt := 15) hC.1 hC.2.1 dX7_noteVisit_1 (by decide) (fun c12 => ?_) (fun c12 => ?_)
  · have h := h.1 c12
    exact g_vret hC hr hlk hS h dX7_noteVisit_15
  · have h := h.2 c12
    refine lv_iload_n hC.1 hC.2.1 dX7_noteVisit_4 rfl (lv_at hl 1 rfl) ?_
    refine lv_aload_n hC.1 hC.2.1 dX7_noteVisit_5 rfl (lv_at hl 0 rfl) ?_
    obtain ⟨hk1, h⟩ := h
    refine gf_1_0 hC hS hk1 wq_134 dX7_noteVisit_6 ?_
    obtain ⟨hk2, h⟩ := h
    refine g_lsize hC hS hk2 wq_183 hl ⟨Nat.le_of_ble_eq_true rfl, Nat.le_of_ble_eq_true rfl, Nat.zero_le _⟩ (Nat.le_of_ble_eq_true rfl) dX7_noteVisit_9 ⟨Nat.le_of_ble_eq_true rfl, Nat.le_of_ble_eq_true rfl⟩ (fun H locs hS => ?_)
    refine lv_icmp_lt (tgt := 16) hC.1 hC.2.1 dX7_noteVisit_12 (by decide) (fun c11 => ?_) (fun c11 => ?_)
    · have h := h.1 c11
      refine lv_aload_n hC.1 hC.2.1 dX7_noteVisit_16 rfl (lv_at hl 0 rfl) ?_
      refine gf_1_0 hC hS hk1 wq_134 dX7_noteVisit_17 ?_
      refine lv_iload_n hC.1 hC.2.1 dX7_noteVisit_20 rfl (lv_at hl 1 rfl) ?_
      obtain ⟨hk3, h⟩ := h
      obtain ⟨hq4, h⟩ := h
      obtain ⟨hx5, h⟩ := h
      refine g_lget (E := 4) hC hS rfl hk2 hk3 hq4 hx5.1 hx5.2 wq_187 hl ⟨Nat.le_of_ble_eq_true rfl, Nat.le_of_ble_eq_true rfl, Nat.zero_le _⟩ (Nat.le_of_ble_eq_true rfl) dX7_noteVisit_21 ⟨Nat.le_of_ble_eq_true rfl, Nat.le_of_ble_eq_true rfl⟩ (fun j6 ej6 H locs hS => ?_)
      have h := h j6 ej6
      obtain ⟨hk7, h⟩ := h
      refine g_cast hC hS hk7 rfl (show vwCl[2]? = some (RX1, TX1, 2) from rfl) wq_262 dX7_noteVisit_24 ?_
      refine lv_astore_n (lv' := [(3, .ref (ad 4 w j6)), (0, .ref (ad 1 w 0)), (1, .int a1), (2, .int a2)]) hC.1 hC.2.1 dX7_noteVisit_27 rfl hl (by decide) rfl (fun ls hl => ?_)
      refine lv_iload_n hC.1 hC.2.1 dX7_noteVisit_28 rfl (lv_at hl 3 rfl) ?_
      refine lv_if_eq (tgt := 45) hC.1 hC.2.1 dX7_noteVisit_29 (by decide) (fun c10 => ?_) (fun c10 => ?_)
      · have h := h.1 c10
        refine lv_aload_n hC.1 hC.2.1 dX7_noteVisit_45 rfl (lv_at hl 0 rfl) ?_
        refine lv_dup hC.1 hC.2.1 dX7_noteVisit_46 rfl ?_
        refine gn_4_1 hC hS hk7 wq_416 dX7_noteVisit_47 ?_
        refine lv_iconst (v := 1) hC.1 hC.2.1 dX7_noteVisit_50 (by decide) ?_
        refine lv_iadd hC.1 hC.2.1 dX7_noteVisit_51 ?_
        refine pn_4_1 hC hS hk7 wq_416 dX7_noteVisit_52 (fun H locs hS => ?_)
        obtain ⟨V8, eV8⟩ : ∃ z : VS, z = vup V 4 w j6 1 0 ((V 4 w j6 1 0) + 1) := ⟨_, rfl⟩
        rw [← eV8] at hS
        have h := h V8 eV8
        exact g_vret hC hr hlk hS h dX7_noteVisit_55
      · have h := h.2 c10
        refine lv_aload_n hC.1 hC.2.1 dX7_noteVisit_32 rfl (lv_at hl 0 rfl) ?_
        refine lv_dup hC.1 hC.2.1 dX7_noteVisit_33 rfl ?_
        refine gn_4_0 hC hS hk7 wq_414 dX7_noteVisit_34 ?_
        refine lv_iconst (v := 1) hC.1 hC.2.1 dX7_noteVisit_37 (by decide) ?_
        refine lv_iadd hC.1 hC.2.1 dX7_noteVisit_38 ?_
        refine pn_4_0 hC hS hk7 wq_414 dX7_noteVisit_39 (fun H locs hS => ?_)
        obtain ⟨V9, eV9⟩ : ∃ z : VS, z = vup V 4 w j6 0 0 ((V 4 w j6 0 0) + 1) := ⟨_, rfl⟩
        rw [← eV9] at hS
        have h := h V9 eV9
        refine lv_goto (tgt := 55) hC.1 hC.2.1 dX7_noteVisit_42 (by decide) ?_
        exact g_vret hC hr hlk hS h dX7_noteVisit_55
    · have h := h.2 c11
      exact g_vret hC hr hlk hS h dX7_noteVisit_15
def wp_X7_readerWith (ks : List KY) (w : Nat) (a1 : Int32) (V : VS) (post : Option Nat → VS → Prop) : Prop := ((a1 < 0 → (post none V)) ∧ (¬ (a1 < 0) → ((1, w, 0) ∈ ks ∧ (2, w, 3) ∈ ks ∧ ((V 2 w 3 2 0) ≤ a1 → (post none V)) ∧ (¬ ((V 2 w 3 2 0) ≤ a1) → ((3, w, 3) ∈ ks ∧ lsz V w 3 ≤ 33 ∧ (¬ a1 < 0 ∧ a1 < V 2 w 3 2 0) ∧ ∀ j6 : Nat, j6 = a1.toNatClampNeg → (7, w, j6) ∈ ks ∧ post (some j6) V)))))
set_option maxHeartbeats 4000000 in
set_option maxRecDepth 100000 in
theorem c_X7_readerWith (l : Launch) (G : GG) (ks : List KY) (ad : AD) (w : Nat) (a1 : Int32) (V : VS) (post : Option Nat → VS → Prop) (h : wp_X7_readerWith ks w a1 V post) (sz : Nat) : Met l yX7_readerWith (ws_ yX7_readerWith cX7_readerWith 2 (some (.object "LibraryVan$Reader"))) ({ frames := 3, cells := 0, slots := 0, locals := 64 }) (mPc [.ref (ad 1 w 0), .int a1] G ks ad V sz) (mQe (fun i => ad 7 w i) post G ks ad sz) 0 0 (mA ks ad sz) := by
  refine g_met (own := RX7) (by decide) rfl (Nat.le_of_ble_eq_true rfl) ?_
  intro p e s m args below meth c ls hC hsz hr hlk hin hS ha hl
  have hl : lv_has ls 2 [(0, .ref (ad 1 w 0)), (1, .int a1)] := hl
  unfold wp_X7_readerWith at h
  refine lv_iload_n hC.1 hC.2.1 dX7_readerWith_0 rfl (lv_at hl 1 rfl) ?_
  refine lv_if_lt (tgt := 29) hC.1 hC.2.1 dX7_readerWith_1 (by decide) (fun c9 => ?_) (fun c9 => ?_)
  · have h := h.1 c9
    refine lv_null hC.1 hC.2.1 dX7_readerWith_29 ?_
    exact g_aret (r := none) hC hr (Or.inl ⟨_, rfl⟩) hlk hS h dX7_readerWith_30
  · have h := h.2 c9
    refine lv_iload_n hC.1 hC.2.1 dX7_readerWith_4 rfl (lv_at hl 1 rfl) ?_
    refine lv_aload_n hC.1 hC.2.1 dX7_readerWith_5 rfl (lv_at hl 0 rfl) ?_
    obtain ⟨hk1, h⟩ := h
    refine gf_1_3 hC hS hk1 wq_140 dX7_readerWith_6 ?_
    obtain ⟨hk2, h⟩ := h
    refine g_lsize hC hS hk2 wq_183 hl ⟨Nat.le_of_ble_eq_true rfl, Nat.le_of_ble_eq_true rfl, Nat.zero_le _⟩ (Nat.le_of_ble_eq_true rfl) dX7_readerWith_9 ⟨Nat.le_of_ble_eq_true rfl, Nat.le_of_ble_eq_true rfl⟩ (fun H locs hS => ?_)
    refine lv_icmp_ge (tgt := 29) hC.1 hC.2.1 dX7_readerWith_12 (by decide) (fun c8 => ?_) (fun c8 => ?_)
    · have h := h.1 c8
      refine lv_null hC.1 hC.2.1 dX7_readerWith_29 ?_
      exact g_aret (r := none) hC hr (Or.inl ⟨_, rfl⟩) hlk hS h dX7_readerWith_30
    · have h := h.2 c8
      refine lv_aload_n hC.1 hC.2.1 dX7_readerWith_15 rfl (lv_at hl 0 rfl) ?_
      refine gf_1_3 hC hS hk1 wq_140 dX7_readerWith_16 ?_
      refine lv_iload_n hC.1 hC.2.1 dX7_readerWith_19 rfl (lv_at hl 1 rfl) ?_
      obtain ⟨hk3, h⟩ := h
      obtain ⟨hq4, h⟩ := h
      obtain ⟨hx5, h⟩ := h
      refine g_lget (E := 7) hC hS rfl hk2 hk3 hq4 hx5.1 hx5.2 wq_187 hl ⟨Nat.le_of_ble_eq_true rfl, Nat.le_of_ble_eq_true rfl, Nat.zero_le _⟩ (Nat.le_of_ble_eq_true rfl) dX7_readerWith_20 ⟨Nat.le_of_ble_eq_true rfl, Nat.le_of_ble_eq_true rfl⟩ (fun j6 ej6 H locs hS => ?_)
      have h := h j6 ej6
      obtain ⟨hk7, h⟩ := h
      refine g_cast hC hS hk7 rfl (show vwCl[5]? = some (RX4, TX4, 8) from rfl) wq_228 dX7_readerWith_23 ?_
      refine lv_goto (tgt := 30) hC.1 hC.2.1 dX7_readerWith_26 (by decide) ?_
      exact g_aret (r := some j6) hC hr (Or.inl ⟨_, rfl⟩) hlk hS h dX7_readerWith_30
def wk_X7_takeBooksBack_2 (ks : List KY) (w : Nat) (a1 : Int32) (post : VS → Prop) (B2 : Int32 → VS → Prop) (x1 : Int32) (x2 : Int32) (V : VS) : Prop := ((1, w, 0) ∈ ks ∧ (2, w, 2) ∈ ks ∧ ((V 2 w 2 2 0) ≤ x2 → (post V)) ∧ (¬ ((V 2 w 2 2 0) ≤ x2) → ((3, w, 2) ∈ ks ∧ lsz V w 2 ≤ 33 ∧ (¬ x2 < 0 ∧ x2 < V 2 w 2 2 0) ∧ ∀ j6 : Nat, j6 = x2.toNatClampNeg → (6, w, j6) ∈ ks ∧ wp_X7_readerWith ks w (V 6 w j6 3 0) V (fun r9 V8 => (r9 = none → (∀ y11 : Int32, y11 = x2 + 1 → B2 y11 V8)) ∧ (∀ j10 : Nat, r9 = some j10 → ((7, w, j10) ∈ ks ∧ ((V8 7 w j10 1 0) = x1 → ((((V8 1 w 0 7 0) - (V8 6 w j6 4 0)) < (V8 7 w j10 3 0) → (∀ y13 : Int32, y13 = x2 + 1 → B2 y13 V8)) ∧ (¬ (((V8 1 w 0 7 0) - (V8 6 w j6 4 0)) < (V8 7 w j10 3 0)) → (wp_X0_comeBackFrom ks w j6 w j10 ((V8 1 w 0 7 0) - (V8 6 w j6 4 0)) V8 (fun V14 => (∀ y15 : Int32, y15 = x2 + 1 → B2 y15 V14)))))) ∧ (¬ ((V8 7 w j10 1 0) = x1) → (∀ y17 : Int32, y17 = x2 + 1 → B2 y17 V8))))))))
def wl_X7_takeBooksBack_2 (ks : List KY) (w : Nat) (a1 : Int32) (post : VS → Prop) (x1 : Int32) (x2 : Int32) (V : VS) : Prop := ∃ J : Nat → Int32 → VS → Prop, (∃ n, J n x2 V) ∧ ∀ (n : Nat) (x2 : Int32) (V : VS), J n x2 V → wk_X7_takeBooksBack_2 ks w a1 post (fun x2 V => ∃ n', n' < n ∧ J n' x2 V) x1 x2 V
def wp_X7_takeBooksBack (ks : List KY) (w : Nat) (a1 : Int32) (V : VS) (post : VS → Prop) : Prop := (wl_X7_takeBooksBack_2 ks w a1 post a1 0 V)
set_option maxHeartbeats 4000000 in
set_option maxRecDepth 100000 in
theorem c_X7_takeBooksBack (l : Launch) (G : GG) (ks : List KY) (ad : AD) (w : Nat) (a1 : Int32) (V : VS) (post : VS → Prop) (h : wp_X7_takeBooksBack ks w a1 V post) (sz : Nat) : Met l yX7_takeBooksBack (ws_ yX7_takeBooksBack cX7_takeBooksBack 5 none) ({ frames := 4, cells := 0, slots := 0, locals := 85 }) (mPc [.ref (ad 1 w 0), .int a1] G ks ad V sz) (mQv post G ks ad sz) 0 0 (mA ks ad sz) := by
  refine g_met (own := RX7) (by decide) rfl (Nat.le_of_ble_eq_true rfl) ?_
  intro p e s m args below meth c ls hC hsz hr hlk hin hS ha hl
  have hl : lv_has ls 5 [(0, .ref (ad 1 w 0)), (1, .int a1)] := hl
  unfold wp_X7_takeBooksBack at h
  have kT2 : ∀ (x1 : Int32) (x2 : Int32) (V : VS) (H : Heap) (locs : List Loc) (ls : Array Slot), wl_X7_takeBooksBack_2 ks w a1 post x1 x2 V → ST G ks ad V (mA ks ad sz) s.heap H locs → lv_has ls 5 [(0, .ref (ad 1 w 0)), (1, .int x1), (2, .int x2)] → W p l e ({ frames := 4, cells := 0, slots := 0, locals := 85 } : Room) s m args below meth c H locs 0 0 (MQ below (mQv post G ks ad sz) args s 0 0 (mA ks ad sz)) (F0 m 2 ls []) := by
    intro x1 x2 V H locs ls h hS hl
    obtain ⟨J, ⟨n, hJ⟩, hb⟩ := h
    induction n using Nat.strongRecOn generalizing x2 V H locs ls with
    | _ n ih =>
      have h := hb n x2 V hJ
      obtain ⟨B2, eB⟩ : ∃ z : Int32 → VS → Prop, z = (fun x2 V => ∃ n', n' < n ∧ J n' x2 V) := ⟨_, rfl⟩
      rw [← eB] at h
      have kB2 : ∀ (x2 : Int32) (V : VS) (H : Heap) (locs : List Loc) (ls : Array Slot), B2 x2 V → ST G ks ad V (mA ks ad sz) s.heap H locs → lv_has ls 5 [(0, .ref (ad 1 w 0)), (1, .int x1), (2, .int x2)] → W p l e ({ frames := 4, cells := 0, slots := 0, locals := 85 } : Room) s m args below meth c H locs 0 0 (MQ below (mQv post G ks ad sz) args s 0 0 (mA ks ad sz)) (F0 m 2 ls []) := by
        intro x2 V H locs ls h hS hl
        rw [eB] at h
        obtain ⟨n', hn, hJ'⟩ := h
        exact ih n' hn _ _ _ _ _ hS hl hJ'
      clear ih hJ hb eB
      unfold wk_X7_takeBooksBack_2 at h
      refine lv_iload_n hC.1 hC.2.1 dX7_takeBooksBack_2 rfl (lv_at hl 2 rfl) ?_
      refine lv_aload_n hC.1 hC.2.1 dX7_takeBooksBack_3 rfl (lv_at hl 0 rfl) ?_
      obtain ⟨hk1, h⟩ := h
      refine gf_1_2 hC hS hk1 wq_138 dX7_takeBooksBack_4 ?_
      obtain ⟨hk2, h⟩ := h
      refine g_lsize hC hS hk2 wq_183 hl ⟨Nat.le_of_ble_eq_true rfl, Nat.le_of_ble_eq_true rfl, Nat.zero_le _⟩ (Nat.le_of_ble_eq_true rfl) dX7_takeBooksBack_7 ⟨Nat.le_of_ble_eq_true rfl, Nat.le_of_ble_eq_true rfl⟩ (fun H locs hS => ?_)
      refine lv_icmp_ge (tgt := 87) hC.1 hC.2.1 dX7_takeBooksBack_10 (by decide) (fun c19 => ?_) (fun c19 => ?_)
      · have h := h.1 c19
        exact g_vret hC hr hlk hS h dX7_takeBooksBack_87
      · have h := h.2 c19
        refine lv_aload_n hC.1 hC.2.1 dX7_takeBooksBack_13 rfl (lv_at hl 0 rfl) ?_
        refine gf_1_2 hC hS hk1 wq_138 dX7_takeBooksBack_14 ?_
        refine lv_iload_n hC.1 hC.2.1 dX7_takeBooksBack_17 rfl (lv_at hl 2 rfl) ?_
        obtain ⟨hk3, h⟩ := h
        obtain ⟨hq4, h⟩ := h
        obtain ⟨hx5, h⟩ := h
        refine g_lget (E := 6) hC hS rfl hk2 hk3 hq4 hx5.1 hx5.2 wq_187 hl ⟨Nat.le_of_ble_eq_true rfl, Nat.le_of_ble_eq_true rfl, Nat.zero_le _⟩ (Nat.le_of_ble_eq_true rfl) dX7_takeBooksBack_18 ⟨Nat.le_of_ble_eq_true rfl, Nat.le_of_ble_eq_true rfl⟩ (fun j6 ej6 H locs hS => ?_)
        have h := h j6 ej6
        obtain ⟨hk7, h⟩ := h
        refine g_cast hC hS hk7 rfl (show vwCl[1]? = some (RX0, TX0, 6) from rfl) wq_201 dX7_takeBooksBack_21 ?_
        refine lv_astore_n (lv' := [(3, .ref (ad 6 w j6)), (0, .ref (ad 1 w 0)), (1, .int x1), (2, .int x2)]) hC.1 hC.2.1 dX7_takeBooksBack_24 rfl hl (by decide) rfl (fun ls hl => ?_)
        refine lv_aload_n hC.1 hC.2.1 dX7_takeBooksBack_25 rfl (lv_at hl 1 rfl) ?_
        refine lv_aload_n hC.1 hC.2.1 dX7_takeBooksBack_26 rfl (lv_at hl 0 rfl) ?_
        refine gn_6_3 hC hS hk7 wq_686 dX7_takeBooksBack_27 ?_
        refine g_calle0 hS (g_runV (n := 1) (rest := []) (As := [.int (V 6 w j6 3 0)]) (C := RX7) (T := TX7) (N := 9) hC hS hk1 rfl rfl (c_X7_readerWith l G ks ad w (V 6 w j6 3 0) V _ h _) (gI wq_853 wq_855 wq_17 wq_40 wq_856) rfl ⟨⟨by decide +kernel, by decide +kernel, by decide +kernel⟩, rfl, rfl, Nat.le_of_ble_eq_true rfl, Nat.le_of_ble_eq_true rfl⟩ rfl hl rfl (Nat.le_of_ble_eq_true rfl) dX7_takeBooksBack_30 ⟨Nat.le_of_ble_eq_true rfl, Nat.le_of_ble_eq_true rfl⟩) (fun r9 V8 H locs h hS => ?_)
        rcases r9 with _ | j10
        · have h := h.1 rfl
          refine W.eq (g2 := F0 m 33 ls [.null]) rfl ?_
          refine lv_astoreN (lv' := [(4, .null), (3, .ref (ad 6 w j6)), (0, .ref (ad 1 w 0)), (1, .int x1), (2, .int x2)]) hC.1 hC.2.1 dX7_takeBooksBack_33 hl (by decide) rfl (fun ls hl => ?_)
          refine lv_aloadN hC.1 hC.2.1 dX7_takeBooksBack_35 (lv_at hl 0 rfl) ?_
          refine lv_ifnullN (tgt := 81) hC.1 hC.2.1 dX7_takeBooksBack_37 (by decide) ?_
          obtain ⟨y11, ey11⟩ : ∃ z : Int32, z = x2 + 1 := ⟨_, rfl⟩
          have h := h y11 ey11
          refine lv_iinc (v := y11) (lv' := [(2, .int y11), (4, .null), (3, .ref (ad 6 w j6)), (0, .ref (ad 1 w 0)), (1, .int x1)]) hC.1 hC.2.1 dX7_takeBooksBack_81 hl (k := 4) rfl (by rw [ey11]; rfl) (by decide) rfl (fun ls hl => ?_)
          refine lv_goto (tgt := 2) hC.1 hC.2.1 dX7_takeBooksBack_84 (by decide) ?_
          exact kB2 _ _ _ _ _ h hS (lv_sub hl [3, 4, 0] rfl)
        · have h := h.2 j10 rfl
          refine W.eq (g2 := F0 m 33 ls [.ref (ad 7 w j10)]) rfl ?_
          refine lv_astore (lv' := [(4, .ref (ad 7 w j10)), (3, .ref (ad 6 w j6)), (0, .ref (ad 1 w 0)), (1, .int x1), (2, .int x2)]) hC.1 hC.2.1 dX7_takeBooksBack_33 hl (by decide) rfl (fun ls hl => ?_)
          refine lv_aload hC.1 hC.2.1 dX7_takeBooksBack_35 (lv_at hl 0 rfl) ?_
          refine lv_ifnull hC.1 hC.2.1 dX7_takeBooksBack_37 ?_
          refine lv_aload hC.1 hC.2.1 dX7_takeBooksBack_40 (lv_at hl 0 rfl) ?_
          obtain ⟨hk12, h⟩ := h
          refine gn_7_1 hC hS hk12 wq_723 dX7_takeBooksBack_42 ?_
          refine lv_iload_n hC.1 hC.2.1 dX7_takeBooksBack_45 rfl (lv_at hl 3 rfl) ?_
          refine lv_icmp_ne (tgt := 81) hC.1 hC.2.1 dX7_takeBooksBack_46 (by decide) (fun c18 => ?_) (fun c18 => ?_)
          · have h := h.2 c18
            obtain ⟨y17, ey17⟩ : ∃ z : Int32, z = x2 + 1 := ⟨_, rfl⟩
            have h := h y17 ey17
            refine lv_iinc (v := y17) (lv' := [(2, .int y17), (4, .ref (ad 7 w j10)), (3, .ref (ad 6 w j6)), (0, .ref (ad 1 w 0)), (1, .int x1)]) hC.1 hC.2.1 dX7_takeBooksBack_81 hl (k := 4) rfl (by rw [ey17]; rfl) (by decide) rfl (fun ls hl => ?_)
            refine lv_goto (tgt := 2) hC.1 hC.2.1 dX7_takeBooksBack_84 (by decide) ?_
            exact kB2 _ _ _ _ _ h hS (lv_sub hl [3, 4, 0] rfl)
          · have h := h.1 c18
            refine lv_aload_n hC.1 hC.2.1 dX7_takeBooksBack_49 rfl (lv_at hl 2 rfl) ?_
            refine gf_1_7 hC hS hk1 wq_146 dX7_takeBooksBack_50 ?_
            refine lv_aload_n hC.1 hC.2.1 dX7_takeBooksBack_53 rfl (lv_at hl 1 rfl) ?_
            refine gn_6_4 hC hS hk7 wq_689 dX7_takeBooksBack_54 ?_
            refine lv_isub hC.1 hC.2.1 dX7_takeBooksBack_57 ?_
            refine lv_aload hC.1 hC.2.1 dX7_takeBooksBack_58 (lv_at hl 0 rfl) ?_
            refine gn_7_3 hC hS hk12 wq_727 dX7_takeBooksBack_60 ?_
            refine lv_icmp_lt (tgt := 81) hC.1 hC.2.1 dX7_takeBooksBack_63 (by decide) (fun c16 => ?_) (fun c16 => ?_)
            · have h := h.1 c16
              obtain ⟨y13, ey13⟩ : ∃ z : Int32, z = x2 + 1 := ⟨_, rfl⟩
              have h := h y13 ey13
              refine lv_iinc (v := y13) (lv' := [(2, .int y13), (4, .ref (ad 7 w j10)), (3, .ref (ad 6 w j6)), (0, .ref (ad 1 w 0)), (1, .int x1)]) hC.1 hC.2.1 dX7_takeBooksBack_81 hl (k := 4) rfl (by rw [ey13]; rfl) (by decide) rfl (fun ls hl => ?_)
              refine lv_goto (tgt := 2) hC.1 hC.2.1 dX7_takeBooksBack_84 (by decide) ?_
              exact kB2 _ _ _ _ _ h hS (lv_sub hl [3, 4, 0] rfl)
            · have h := h.2 c16
              refine lv_aload_n hC.1 hC.2.1 dX7_takeBooksBack_66 rfl (lv_at hl 1 rfl) ?_
              refine lv_aload hC.1 hC.2.1 dX7_takeBooksBack_67 (lv_at hl 0 rfl) ?_
              refine lv_aload_n hC.1 hC.2.1 dX7_takeBooksBack_69 rfl (lv_at hl 2 rfl) ?_
              refine gf_1_7 hC hS hk1 wq_146 dX7_takeBooksBack_70 ?_
              refine lv_aload_n hC.1 hC.2.1 dX7_takeBooksBack_73 rfl (lv_at hl 1 rfl) ?_
              refine gn_6_4 hC hS hk7 wq_689 dX7_takeBooksBack_74 ?_
              refine lv_isub hC.1 hC.2.1 dX7_takeBooksBack_77 ?_
              refine g_callv0 hS (g_runV (n := 2) (rest := []) (As := [.ref (ad 7 w j10), .int ((V8 1 w 0 7 0) - (V8 6 w j6 4 0))]) (C := RX0) (T := TX0) (N := 6) hC hS hk7 rfl rfl (c_X0_comeBackFrom l G ks ad w j6 w j10 ((V8 1 w 0 7 0) - (V8 6 w j6 4 0)) V8 _ h _) (gI wq_857 wq_858 wq_859 wq_62 wq_860) rfl ⟨⟨by decide +kernel, by decide +kernel, by decide +kernel⟩, rfl, rfl, Nat.le_of_ble_eq_true rfl, Nat.le_of_ble_eq_true rfl⟩ rfl hl rfl (Nat.le_of_ble_eq_true rfl) dX7_takeBooksBack_78 ⟨Nat.le_of_ble_eq_true rfl, Nat.le_of_ble_eq_true rfl⟩) (fun V14 H locs h hS => ?_)
              obtain ⟨y15, ey15⟩ : ∃ z : Int32, z = x2 + 1 := ⟨_, rfl⟩
              have h := h y15 ey15
              refine lv_iinc (v := y15) (lv' := [(2, .int y15), (4, .ref (ad 7 w j10)), (3, .ref (ad 6 w j6)), (0, .ref (ad 1 w 0)), (1, .int x1)]) hC.1 hC.2.1 dX7_takeBooksBack_81 hl (k := 4) rfl (by rw [ey15]; rfl) (by decide) rfl (fun ls hl => ?_)
              refine lv_goto (tgt := 2) hC.1 hC.2.1 dX7_takeBooksBack_84 (by decide) ?_
              exact kB2 _ _ _ _ _ h hS (lv_sub hl [3, 4, 0] rfl)
  refine lv_iconst (v := 0) hC.1 hC.2.1 dX7_takeBooksBack_0 (by decide) ?_
  refine lv_istore_n (lv' := [(2, .int 0), (0, .ref (ad 1 w 0)), (1, .int a1)]) hC.1 hC.2.1 dX7_takeBooksBack_1 rfl hl (by decide) rfl (fun ls hl => ?_)
  exact kT2 _ _ _ _ _ _ h hS (lv_sub hl [1, 2, 0] rfl)
def wk_X7_lendReservedBooks_2 (ks : List KY) (w : Nat) (a1 : Int32) (post : VS → Prop) (B2 : Int32 → VS → Prop) (x1 : Int32) (x2 : Int32) (V : VS) : Prop := ((1, w, 0) ∈ ks ∧ (2, w, 2) ∈ ks ∧ ((V 2 w 2 2 0) ≤ x2 → (post V)) ∧ (¬ ((V 2 w 2 2 0) ≤ x2) → ((3, w, 2) ∈ ks ∧ lsz V w 2 ≤ 33 ∧ (¬ x2 < 0 ∧ x2 < V 2 w 2 2 0) ∧ ∀ j6 : Nat, j6 = x2.toNatClampNeg → (6, w, j6) ∈ ks ∧ wp_X0_isOnVan ks w j6 V (fun r9 V8 => ((r9 = 0 → (∀ y10 : Int32, y10 = x2 + 1 → B2 y10 V8)) ∧ (¬ (r9 = 0) → ((8, w, j6) ∈ ks ∧ wp_X3_first ks w j6 V8 (fun r13 V11 => (wp_X7_readerWith ks w r13 V11 (fun r15 V14 => (r15 = none → (∀ y17 : Int32, y17 = x2 + 1 → B2 y17 V14)) ∧ (∀ j16 : Nat, r15 = some j16 → ((7, w, j16) ∈ ks ∧ ((V14 7 w j16 1 0) = x1 → (wp_X4_takesMore ks w j16 V14 (fun r20 V19 => ((r20 = 0 → (∀ y21 : Int32, y21 = x2 + 1 → B2 y21 V19)) ∧ (¬ (r20 = 0) → (wp_X3_dropPlace ks w j6 0 V19 (fun V22 => (wp_X0_lendTo ks w j6 w j16 (V22 1 w 0 7 0) V22 (fun V23 => (∀ y24 : Int32, y24 = x2 + 1 → B2 y24 V23)))))))))) ∧ (¬ ((V14 7 w j16 1 0) = x1) → (∀ y26 : Int32, y26 = x2 + 1 → B2 y26 V14))))))))))))))
def wl_X7_lendReservedBooks_2 (ks : List KY) (w : Nat) (a1 : Int32) (post : VS → Prop) (x1 : Int32) (x2 : Int32) (V : VS) : Prop := ∃ J : Nat → Int32 → VS → Prop, (∃ n, J n x2 V) ∧ ∀ (n : Nat) (x2 : Int32) (V : VS), J n x2 V → wk_X7_lendReservedBooks_2 ks w a1 post (fun x2 V => ∃ n', n' < n ∧ J n' x2 V) x1 x2 V
def wp_X7_lendReservedBooks (ks : List KY) (w : Nat) (a1 : Int32) (V : VS) (post : VS → Prop) : Prop := (wl_X7_lendReservedBooks_2 ks w a1 post a1 0 V)
set_option maxHeartbeats 4000000 in
set_option maxRecDepth 100000 in
theorem c_X7_lendReservedBooks (l : Launch) (G : GG) (ks : List KY) (ad : AD) (w : Nat) (a1 : Int32) (V : VS) (post : VS → Prop) (h : wp_X7_lendReservedBooks ks w a1 V post) (sz : Nat) : Met l yX7_lendReservedBooks (ws_ yX7_lendReservedBooks cX7_lendReservedBooks 5 none) ({ frames := 4, cells := 0, slots := 0, locals := 85 }) (mPc [.ref (ad 1 w 0), .int a1] G ks ad V sz) (mQv post G ks ad sz) 0 0 (mA ks ad sz) := by
  refine g_met (own := RX7) (by decide) rfl (Nat.le_of_ble_eq_true rfl) ?_
  intro p e s m args below meth c ls hC hsz hr hlk hin hS ha hl
  have hl : lv_has ls 5 [(0, .ref (ad 1 w 0)), (1, .int a1)] := hl
  unfold wp_X7_lendReservedBooks at h
  have kT2 : ∀ (x1 : Int32) (x2 : Int32) (V : VS) (H : Heap) (locs : List Loc) (ls : Array Slot), wl_X7_lendReservedBooks_2 ks w a1 post x1 x2 V → ST G ks ad V (mA ks ad sz) s.heap H locs → lv_has ls 5 [(0, .ref (ad 1 w 0)), (1, .int x1), (2, .int x2)] → W p l e ({ frames := 4, cells := 0, slots := 0, locals := 85 } : Room) s m args below meth c H locs 0 0 (MQ below (mQv post G ks ad sz) args s 0 0 (mA ks ad sz)) (F0 m 2 ls []) := by
    intro x1 x2 V H locs ls h hS hl
    obtain ⟨J, ⟨n, hJ⟩, hb⟩ := h
    induction n using Nat.strongRecOn generalizing x2 V H locs ls with
    | _ n ih =>
      have h := hb n x2 V hJ
      obtain ⟨B2, eB⟩ : ∃ z : Int32 → VS → Prop, z = (fun x2 V => ∃ n', n' < n ∧ J n' x2 V) := ⟨_, rfl⟩
      rw [← eB] at h
      have kB2 : ∀ (x2 : Int32) (V : VS) (H : Heap) (locs : List Loc) (ls : Array Slot), B2 x2 V → ST G ks ad V (mA ks ad sz) s.heap H locs → lv_has ls 5 [(0, .ref (ad 1 w 0)), (1, .int x1), (2, .int x2)] → W p l e ({ frames := 4, cells := 0, slots := 0, locals := 85 } : Room) s m args below meth c H locs 0 0 (MQ below (mQv post G ks ad sz) args s 0 0 (mA ks ad sz)) (F0 m 2 ls []) := by
        intro x2 V H locs ls h hS hl
        rw [eB] at h
        obtain ⟨n', hn, hJ'⟩ := h
        exact ih n' hn _ _ _ _ _ hS hl hJ'
      clear ih hJ hb eB
      unfold wk_X7_lendReservedBooks_2 at h
      refine lv_iload_n hC.1 hC.2.1 dX7_lendReservedBooks_2 rfl (lv_at hl 2 rfl) ?_
      refine lv_aload_n hC.1 hC.2.1 dX7_lendReservedBooks_3 rfl (lv_at hl 0 rfl) ?_
      obtain ⟨hk1, h⟩ := h
      refine gf_1_2 hC hS hk1 wq_138 dX7_lendReservedBooks_4 ?_
      obtain ⟨hk2, h⟩ := h
      refine g_lsize hC hS hk2 wq_183 hl ⟨Nat.le_of_ble_eq_true rfl, Nat.le_of_ble_eq_true rfl, Nat.zero_le _⟩ (Nat.le_of_ble_eq_true rfl) dX7_lendReservedBooks_7 ⟨Nat.le_of_ble_eq_true rfl, Nat.le_of_ble_eq_true rfl⟩ (fun H locs hS => ?_)
      refine lv_icmp_ge (tgt := 95) hC.1 hC.2.1 dX7_lendReservedBooks_10 (by decide) (fun c29 => ?_) (fun c29 => ?_)
      · have h := h.1 c29
        exact g_vret hC hr hlk hS h dX7_lendReservedBooks_95
      · have h := h.2 c29
        refine lv_aload_n hC.1 hC.2.1 dX7_lendReservedBooks_13 rfl (lv_at hl 0 rfl) ?_
        refine gf_1_2 hC hS hk1 wq_138 dX7_lendReservedBooks_14 ?_
        refine lv_iload_n hC.1 hC.2.1 dX7_lendReservedBooks_17 rfl (lv_at hl 2 rfl) ?_
        obtain ⟨hk3, h⟩ := h
        obtain ⟨hq4, h⟩ := h
        obtain ⟨hx5, h⟩ := h
        refine g_lget (E := 6) hC hS rfl hk2 hk3 hq4 hx5.1 hx5.2 wq_187 hl ⟨Nat.le_of_ble_eq_true rfl, Nat.le_of_ble_eq_true rfl, Nat.zero_le _⟩ (Nat.le_of_ble_eq_true rfl) dX7_lendReservedBooks_18 ⟨Nat.le_of_ble_eq_true rfl, Nat.le_of_ble_eq_true rfl⟩ (fun j6 ej6 H locs hS => ?_)
        have h := h j6 ej6
        obtain ⟨hk7, h⟩ := h
        refine g_cast hC hS hk7 rfl (show vwCl[1]? = some (RX0, TX0, 6) from rfl) wq_201 dX7_lendReservedBooks_21 ?_
        refine lv_astore_n (lv' := [(3, .ref (ad 6 w j6)), (0, .ref (ad 1 w 0)), (1, .int x1), (2, .int x2)]) hC.1 hC.2.1 dX7_lendReservedBooks_24 rfl hl (by decide) rfl (fun ls hl => ?_)
        refine lv_aload_n hC.1 hC.2.1 dX7_lendReservedBooks_25 rfl (lv_at hl 0 rfl) ?_
        refine g_calli0 hS (g_runV (n := 0) (rest := []) (As := []) (C := RX0) (T := TX0) (N := 6) hC hS hk7 rfl rfl (c_X0_isOnVan l G ks ad w j6 V _ h _) (gI wq_219 wq_220 wq_221 wq_62 wq_222) rfl ⟨⟨by decide +kernel, by decide +kernel, by decide +kernel⟩, rfl, rfl, Nat.le_of_ble_eq_true rfl, Nat.le_of_ble_eq_true rfl⟩ rfl hl rfl (Nat.le_of_ble_eq_true rfl) dX7_lendReservedBooks_26 ⟨Nat.le_of_ble_eq_true rfl, Nat.le_of_ble_eq_true rfl⟩) (fun r9 V8 H locs h hS => ?_)
        refine lv_if_eq (tgt := 46) hC.1 hC.2.1 dX7_lendReservedBooks_29 (by decide) (fun c28 => ?_) (fun c28 => ?_)
        · have h := h.1 c28
          refine lv_null hC.1 hC.2.1 dX7_lendReservedBooks_46 ?_
          refine lv_astoreN (lv' := [(4, .null), (3, .ref (ad 6 w j6)), (0, .ref (ad 1 w 0)), (1, .int x1), (2, .int x2)]) hC.1 hC.2.1 dX7_lendReservedBooks_47 hl (by decide) rfl (fun ls hl => ?_)
          refine lv_aloadN hC.1 hC.2.1 dX7_lendReservedBooks_49 (lv_at hl 0 rfl) ?_
          refine lv_ifnullN (tgt := 89) hC.1 hC.2.1 dX7_lendReservedBooks_51 (by decide) ?_
          obtain ⟨y10, ey10⟩ : ∃ z : Int32, z = x2 + 1 := ⟨_, rfl⟩
          have h := h y10 ey10
          refine lv_iinc (v := y10) (lv' := [(2, .int y10), (4, .null), (3, .ref (ad 6 w j6)), (0, .ref (ad 1 w 0)), (1, .int x1)]) hC.1 hC.2.1 dX7_lendReservedBooks_89 hl (k := 4) rfl (by rw [ey10]; rfl) (by decide) rfl (fun ls hl => ?_)
          refine lv_goto (tgt := 2) hC.1 hC.2.1 dX7_lendReservedBooks_92 (by decide) ?_
          exact kB2 _ _ _ _ _ h hS (lv_sub hl [3, 4, 0] rfl)
        · have h := h.2 c28
          refine lv_aload_n hC.1 hC.2.1 dX7_lendReservedBooks_32 rfl (lv_at hl 1 rfl) ?_
          refine lv_aload_n hC.1 hC.2.1 dX7_lendReservedBooks_33 rfl (lv_at hl 0 rfl) ?_
          refine gn_6_2 hC hS hk7 wq_684 dX7_lendReservedBooks_34 ?_
          obtain ⟨hk12, h⟩ := h
          refine g_calli0 hS (g_runV (n := 0) (rest := [.ref (ad 1 w 0)]) (As := []) (C := RX3) (T := TX3) (N := 2) hC hS hk12 rfl rfl (c_X3_first l G ks ad w j6 V8 _ h _) (gI wq_296 wq_297 wq_298 wq_63 wq_299) rfl ⟨⟨by decide +kernel, by decide +kernel, by decide +kernel⟩, rfl, rfl, Nat.le_of_ble_eq_true rfl, Nat.le_of_ble_eq_true rfl⟩ rfl hl rfl (Nat.le_of_ble_eq_true rfl) dX7_lendReservedBooks_37 ⟨Nat.le_of_ble_eq_true rfl, Nat.le_of_ble_eq_true rfl⟩) (fun r13 V11 H locs h hS => ?_)
          refine g_calle0 hS (g_runV (n := 1) (rest := []) (As := [.int r13]) (C := RX7) (T := TX7) (N := 9) hC hS hk1 rfl rfl (c_X7_readerWith l G ks ad w r13 V11 _ h _) (gI wq_853 wq_855 wq_17 wq_40 wq_856) rfl ⟨⟨by decide +kernel, by decide +kernel, by decide +kernel⟩, rfl, rfl, Nat.le_of_ble_eq_true rfl, Nat.le_of_ble_eq_true rfl⟩ rfl hl rfl (Nat.le_of_ble_eq_true rfl) dX7_lendReservedBooks_40 ⟨Nat.le_of_ble_eq_true rfl, Nat.le_of_ble_eq_true rfl⟩) (fun r15 V14 H locs h hS => ?_)
          rcases r15 with _ | j16
          · have h := h.1 rfl
            refine W.eq (g2 := F0 m 43 ls [.null]) rfl ?_
            refine lv_goto (tgt := 47) hC.1 hC.2.1 dX7_lendReservedBooks_43 (by decide) ?_
            refine lv_astoreN (lv' := [(4, .null), (3, .ref (ad 6 w j6)), (0, .ref (ad 1 w 0)), (1, .int x1), (2, .int x2)]) hC.1 hC.2.1 dX7_lendReservedBooks_47 hl (by decide) rfl (fun ls hl => ?_)
            refine lv_aloadN hC.1 hC.2.1 dX7_lendReservedBooks_49 (lv_at hl 0 rfl) ?_
            refine lv_ifnullN (tgt := 89) hC.1 hC.2.1 dX7_lendReservedBooks_51 (by decide) ?_
            obtain ⟨y17, ey17⟩ : ∃ z : Int32, z = x2 + 1 := ⟨_, rfl⟩
            have h := h y17 ey17
            refine lv_iinc (v := y17) (lv' := [(2, .int y17), (4, .null), (3, .ref (ad 6 w j6)), (0, .ref (ad 1 w 0)), (1, .int x1)]) hC.1 hC.2.1 dX7_lendReservedBooks_89 hl (k := 4) rfl (by rw [ey17]; rfl) (by decide) rfl (fun ls hl => ?_)
            refine lv_goto (tgt := 2) hC.1 hC.2.1 dX7_lendReservedBooks_92 (by decide) ?_
            exact kB2 _ _ _ _ _ h hS (lv_sub hl [3, 4, 0] rfl)
          · have h := h.2 j16 rfl
            refine W.eq (g2 := F0 m 43 ls [.ref (ad 7 w j16)]) rfl ?_
            refine lv_goto (tgt := 47) hC.1 hC.2.1 dX7_lendReservedBooks_43 (by decide) ?_
            refine lv_astore (lv' := [(4, .ref (ad 7 w j16)), (3, .ref (ad 6 w j6)), (0, .ref (ad 1 w 0)), (1, .int x1), (2, .int x2)]) hC.1 hC.2.1 dX7_lendReservedBooks_47 hl (by decide) rfl (fun ls hl => ?_)
            refine lv_aload hC.1 hC.2.1 dX7_lendReservedBooks_49 (lv_at hl 0 rfl) ?_
            refine lv_ifnull hC.1 hC.2.1 dX7_lendReservedBooks_51 ?_
            refine lv_aload hC.1 hC.2.1 dX7_lendReservedBooks_54 (lv_at hl 0 rfl) ?_
            obtain ⟨hk18, h⟩ := h
            refine gn_7_1 hC hS hk18 wq_723 dX7_lendReservedBooks_56 ?_
            refine lv_iload_n hC.1 hC.2.1 dX7_lendReservedBooks_59 rfl (lv_at hl 3 rfl) ?_
            refine lv_icmp_ne (tgt := 89) hC.1 hC.2.1 dX7_lendReservedBooks_60 (by decide) (fun c27 => ?_) (fun c27 => ?_)
            · have h := h.2 c27
              obtain ⟨y26, ey26⟩ : ∃ z : Int32, z = x2 + 1 := ⟨_, rfl⟩
              have h := h y26 ey26
              refine lv_iinc (v := y26) (lv' := [(2, .int y26), (4, .ref (ad 7 w j16)), (3, .ref (ad 6 w j6)), (0, .ref (ad 1 w 0)), (1, .int x1)]) hC.1 hC.2.1 dX7_lendReservedBooks_89 hl (k := 4) rfl (by rw [ey26]; rfl) (by decide) rfl (fun ls hl => ?_)
              refine lv_goto (tgt := 2) hC.1 hC.2.1 dX7_lendReservedBooks_92 (by decide) ?_
              exact kB2 _ _ _ _ _ h hS (lv_sub hl [3, 4, 0] rfl)
            · have h := h.1 c27
              refine lv_aload hC.1 hC.2.1 dX7_lendReservedBooks_63 (lv_at hl 0 rfl) ?_
              refine g_calli0 hS (g_runV (n := 0) (rest := []) (As := []) (C := RX4) (T := TX4) (N := 8) hC hS hk18 rfl rfl (c_X4_takesMore l G ks ad w j16 V14 _ h _) (gI wq_865 wq_866 wq_867 wq_64 wq_868) rfl ⟨⟨by decide +kernel, by decide +kernel, by decide +kernel⟩, rfl, rfl, Nat.le_of_ble_eq_true rfl, Nat.le_of_ble_eq_true rfl⟩ rfl hl rfl (Nat.le_of_ble_eq_true rfl) dX7_lendReservedBooks_65 ⟨Nat.le_of_ble_eq_true rfl, Nat.le_of_ble_eq_true rfl⟩) (fun r20 V19 H locs h hS => ?_)
              refine lv_if_eq (tgt := 89) hC.1 hC.2.1 dX7_lendReservedBooks_68 (by decide) (fun c25 => ?_) (fun c25 => ?_)
              · have h := h.1 c25
                obtain ⟨y21, ey21⟩ : ∃ z : Int32, z = x2 + 1 := ⟨_, rfl⟩
                have h := h y21 ey21
                refine lv_iinc (v := y21) (lv' := [(2, .int y21), (4, .ref (ad 7 w j16)), (3, .ref (ad 6 w j6)), (0, .ref (ad 1 w 0)), (1, .int x1)]) hC.1 hC.2.1 dX7_lendReservedBooks_89 hl (k := 4) rfl (by rw [ey21]; rfl) (by decide) rfl (fun ls hl => ?_)
                refine lv_goto (tgt := 2) hC.1 hC.2.1 dX7_lendReservedBooks_92 (by decide) ?_
                exact kB2 _ _ _ _ _ h hS (lv_sub hl [3, 4, 0] rfl)
              · have h := h.2 c25
                refine lv_aload_n hC.1 hC.2.1 dX7_lendReservedBooks_71 rfl (lv_at hl 1 rfl) ?_
                refine gn_6_2 hC hS hk7 wq_684 dX7_lendReservedBooks_72 ?_
                refine lv_iconst (v := 0) hC.1 hC.2.1 dX7_lendReservedBooks_75 (by decide) ?_
                refine g_callv0 hS (g_runV (n := 1) (rest := []) (As := [.int 0]) (C := RX3) (T := TX3) (N := 2) hC hS hk12 rfl rfl (c_X3_dropPlace l G ks ad w j6 0 V19 _ h _) (gI wq_869 wq_790 wq_791 wq_63 wq_792) rfl ⟨⟨by decide +kernel, by decide +kernel, by decide +kernel⟩, rfl, rfl, Nat.le_of_ble_eq_true rfl, Nat.le_of_ble_eq_true rfl⟩ rfl hl rfl (Nat.le_of_ble_eq_true rfl) dX7_lendReservedBooks_76 ⟨Nat.le_of_ble_eq_true rfl, Nat.le_of_ble_eq_true rfl⟩) (fun V22 H locs h hS => ?_)
                refine lv_aload_n hC.1 hC.2.1 dX7_lendReservedBooks_79 rfl (lv_at hl 1 rfl) ?_
                refine lv_aload hC.1 hC.2.1 dX7_lendReservedBooks_80 (lv_at hl 0 rfl) ?_
                refine lv_aload_n hC.1 hC.2.1 dX7_lendReservedBooks_82 rfl (lv_at hl 2 rfl) ?_
                refine gf_1_7 hC hS hk1 wq_146 dX7_lendReservedBooks_83 ?_
                refine g_callv0 hS (g_runV (n := 2) (rest := []) (As := [.ref (ad 7 w j16), .int (V22 1 w 0 7 0)]) (C := RX0) (T := TX0) (N := 6) hC hS hk7 rfl rfl (c_X0_lendTo l G ks ad w j6 w j16 (V22 1 w 0 7 0) V22 _ h _) (gI wq_870 wq_871 wq_872 wq_62 wq_873) rfl ⟨⟨by decide +kernel, by decide +kernel, by decide +kernel⟩, rfl, rfl, Nat.le_of_ble_eq_true rfl, Nat.le_of_ble_eq_true rfl⟩ rfl hl rfl (Nat.le_of_ble_eq_true rfl) dX7_lendReservedBooks_86 ⟨Nat.le_of_ble_eq_true rfl, Nat.le_of_ble_eq_true rfl⟩) (fun V23 H locs h hS => ?_)
                obtain ⟨y24, ey24⟩ : ∃ z : Int32, z = x2 + 1 := ⟨_, rfl⟩
                have h := h y24 ey24
                refine lv_iinc (v := y24) (lv' := [(2, .int y24), (4, .ref (ad 7 w j16)), (3, .ref (ad 6 w j6)), (0, .ref (ad 1 w 0)), (1, .int x1)]) hC.1 hC.2.1 dX7_lendReservedBooks_89 hl (k := 4) rfl (by rw [ey24]; rfl) (by decide) rfl (fun ls hl => ?_)
                refine lv_goto (tgt := 2) hC.1 hC.2.1 dX7_lendReservedBooks_92 (by decide) ?_
                exact kB2 _ _ _ _ _ h hS (lv_sub hl [3, 4, 0] rfl)
  refine lv_iconst (v := 0) hC.1 hC.2.1 dX7_lendReservedBooks_0 (by decide) ?_
  refine lv_istore_n (lv' := [(2, .int 0), (0, .ref (ad 1 w 0)), (1, .int a1)]) hC.1 hC.2.1 dX7_lendReservedBooks_1 rfl hl (by decide) rfl (fun ls hl => ?_)
  exact kT2 _ _ _ _ _ _ h hS (lv_sub hl [1, 2, 0] rfl)
def wk_X7_lendOtherBookTo_2 (ks : List KY) (w w1 i1 : Nat) (post : VS → Prop) (B2 : Int32 → VS → Prop) (x2 : Int32) (V : VS) : Prop := ((1, w, 0) ∈ ks ∧ (2, w, 2) ∈ ks ∧ ((V 2 w 2 2 0) ≤ x2 → (post V)) ∧ (¬ ((V 2 w 2 2 0) ≤ x2) → ((3, w, 2) ∈ ks ∧ lsz V w 2 ≤ 33 ∧ (¬ x2 < 0 ∧ x2 < V 2 w 2 2 0) ∧ ∀ j6 : Nat, j6 = x2.toNatClampNeg → (6, w, j6) ∈ ks ∧ wp_X0_isOnVan ks w j6 V (fun r9 V8 => ((r9 = 0 → (∀ y10 : Int32, y10 = x2 + 1 → B2 y10 V8)) ∧ (¬ (r9 = 0) → ((7, w1, i1) ∈ ks ∧ ((V8 6 w j6 1 0) = (V8 7 w1 i1 2 0) → ((8, w, j6) ∈ ks ∧ wp_X3_size ks w j6 V8 (fun r14 V12 => ((r14 = 0 → (wp_X4_hasRead ks w1 i1 (V12 6 w j6 0 0) V12 (fun r16 V15 => ((r16 = 0 → (wp_X0_lendTo ks w j6 w1 i1 (V15 1 w 0 7 0) V15 (fun V17 => (post V17)))) ∧ (¬ (r16 = 0) → (∀ y18 : Int32, y18 = x2 + 1 → B2 y18 V15)))))) ∧ (¬ (r14 = 0) → (∀ y20 : Int32, y20 = x2 + 1 → B2 y20 V12)))))) ∧ (¬ ((V8 6 w j6 1 0) = (V8 7 w1 i1 2 0)) → (∀ y22 : Int32, y22 = x2 + 1 → B2 y22 V8)))))))))
def wl_X7_lendOtherBookTo_2 (ks : List KY) (w w1 i1 : Nat) (post : VS → Prop) (x2 : Int32) (V : VS) : Prop := ∃ J : Nat → Int32 → VS → Prop, (∃ n, J n x2 V) ∧ ∀ (n : Nat) (x2 : Int32) (V : VS), J n x2 V → wk_X7_lendOtherBookTo_2 ks w w1 i1 post (fun x2 V => ∃ n', n' < n ∧ J n' x2 V) x2 V
def wp_X7_lendOtherBookTo (ks : List KY) (w w1 i1 : Nat) (V : VS) (post : VS → Prop) : Prop := (wl_X7_lendOtherBookTo_2 ks w w1 i1 post 0 V)
set_option maxHeartbeats 4000000 in
set_option maxRecDepth 100000 in
theorem c_X7_lendOtherBookTo (l : Launch) (G : GG) (ks : List KY) (ad : AD) (w : Nat) (w1 : Nat) (i1 : Nat) (V : VS) (post : VS → Prop) (h : wp_X7_lendOtherBookTo ks w w1 i1 V post) (sz : Nat) : Met l yX7_lendOtherBookTo (ws_ yX7_lendOtherBookTo cX7_lendOtherBookTo 4 none) ({ frames := 3, cells := 0, slots := 0, locals := 64 }) (mPc [.ref (ad 1 w 0), .ref (ad 7 w1 i1)] G ks ad V sz) (mQv post G ks ad sz) 0 0 (mA ks ad sz) := by
  refine g_met (own := RX7) (by decide) rfl (Nat.le_of_ble_eq_true rfl) ?_
  intro p e s m args below meth c ls hC hsz hr hlk hin hS ha hl
  have hl : lv_has ls 4 [(0, .ref (ad 1 w 0)), (1, .ref (ad 7 w1 i1))] := hl
  unfold wp_X7_lendOtherBookTo at h
  have kT2 : ∀ (x2 : Int32) (V : VS) (H : Heap) (locs : List Loc) (ls : Array Slot), wl_X7_lendOtherBookTo_2 ks w w1 i1 post x2 V → ST G ks ad V (mA ks ad sz) s.heap H locs → lv_has ls 4 [(0, .ref (ad 1 w 0)), (1, .ref (ad 7 w1 i1)), (2, .int x2)] → W p l e ({ frames := 3, cells := 0, slots := 0, locals := 64 } : Room) s m args below meth c H locs 0 0 (MQ below (mQv post G ks ad sz) args s 0 0 (mA ks ad sz)) (F0 m 2 ls []) := by
    intro x2 V H locs ls h hS hl
    obtain ⟨J, ⟨n, hJ⟩, hb⟩ := h
    induction n using Nat.strongRecOn generalizing x2 V H locs ls with
    | _ n ih =>
      have h := hb n x2 V hJ
      obtain ⟨B2, eB⟩ : ∃ z : Int32 → VS → Prop, z = (fun x2 V => ∃ n', n' < n ∧ J n' x2 V) := ⟨_, rfl⟩
      rw [← eB] at h
      have kB2 : ∀ (x2 : Int32) (V : VS) (H : Heap) (locs : List Loc) (ls : Array Slot), B2 x2 V → ST G ks ad V (mA ks ad sz) s.heap H locs → lv_has ls 4 [(0, .ref (ad 1 w 0)), (1, .ref (ad 7 w1 i1)), (2, .int x2)] → W p l e ({ frames := 3, cells := 0, slots := 0, locals := 64 } : Room) s m args below meth c H locs 0 0 (MQ below (mQv post G ks ad sz) args s 0 0 (mA ks ad sz)) (F0 m 2 ls []) := by
        intro x2 V H locs ls h hS hl
        rw [eB] at h
        obtain ⟨n', hn, hJ'⟩ := h
        exact ih n' hn _ _ _ _ _ hS hl hJ'
      clear ih hJ hb eB
      unfold wk_X7_lendOtherBookTo_2 at h
      refine lv_iload_n hC.1 hC.2.1 dX7_lendOtherBookTo_2 rfl (lv_at hl 2 rfl) ?_
      refine lv_aload_n hC.1 hC.2.1 dX7_lendOtherBookTo_3 rfl (lv_at hl 0 rfl) ?_
      obtain ⟨hk1, h⟩ := h
      refine gf_1_2 hC hS hk1 wq_138 dX7_lendOtherBookTo_4 ?_
      obtain ⟨hk2, h⟩ := h
      refine g_lsize hC hS hk2 wq_183 hl ⟨Nat.le_of_ble_eq_true rfl, Nat.le_of_ble_eq_true rfl, Nat.zero_le _⟩ (Nat.le_of_ble_eq_true rfl) dX7_lendOtherBookTo_7 ⟨Nat.le_of_ble_eq_true rfl, Nat.le_of_ble_eq_true rfl⟩ (fun H locs hS => ?_)
      refine lv_icmp_ge (tgt := 80) hC.1 hC.2.1 dX7_lendOtherBookTo_10 (by decide) (fun c25 => ?_) (fun c25 => ?_)
      · have h := h.1 c25
        exact g_vret hC hr hlk hS h dX7_lendOtherBookTo_80
      · have h := h.2 c25
        refine lv_aload_n hC.1 hC.2.1 dX7_lendOtherBookTo_13 rfl (lv_at hl 0 rfl) ?_
        refine gf_1_2 hC hS hk1 wq_138 dX7_lendOtherBookTo_14 ?_
        refine lv_iload_n hC.1 hC.2.1 dX7_lendOtherBookTo_17 rfl (lv_at hl 2 rfl) ?_
        obtain ⟨hk3, h⟩ := h
        obtain ⟨hq4, h⟩ := h
        obtain ⟨hx5, h⟩ := h
        refine g_lget (E := 6) hC hS rfl hk2 hk3 hq4 hx5.1 hx5.2 wq_187 hl ⟨Nat.le_of_ble_eq_true rfl, Nat.le_of_ble_eq_true rfl, Nat.zero_le _⟩ (Nat.le_of_ble_eq_true rfl) dX7_lendOtherBookTo_18 ⟨Nat.le_of_ble_eq_true rfl, Nat.le_of_ble_eq_true rfl⟩ (fun j6 ej6 H locs hS => ?_)
        have h := h j6 ej6
        obtain ⟨hk7, h⟩ := h
        refine g_cast hC hS hk7 rfl (show vwCl[1]? = some (RX0, TX0, 6) from rfl) wq_201 dX7_lendOtherBookTo_21 ?_
        refine lv_astore_n (lv' := [(3, .ref (ad 6 w j6)), (0, .ref (ad 1 w 0)), (1, .ref (ad 7 w1 i1)), (2, .int x2)]) hC.1 hC.2.1 dX7_lendOtherBookTo_24 rfl hl (by decide) rfl (fun ls hl => ?_)
        refine lv_aload_n hC.1 hC.2.1 dX7_lendOtherBookTo_25 rfl (lv_at hl 0 rfl) ?_
        refine g_calli0 hS (g_runV (n := 0) (rest := []) (As := []) (C := RX0) (T := TX0) (N := 6) hC hS hk7 rfl rfl (c_X0_isOnVan l G ks ad w j6 V _ h _) (gI wq_219 wq_220 wq_221 wq_62 wq_222) rfl ⟨⟨by decide +kernel, by decide +kernel, by decide +kernel⟩, rfl, rfl, Nat.le_of_ble_eq_true rfl, Nat.le_of_ble_eq_true rfl⟩ rfl hl rfl (Nat.le_of_ble_eq_true rfl) dX7_lendOtherBookTo_26 ⟨Nat.le_of_ble_eq_true rfl, Nat.le_of_ble_eq_true rfl⟩) (fun r9 V8 H locs h hS => ?_)
        refine lv_if_eq (tgt := 74) hC.1 hC.2.1 dX7_lendOtherBookTo_29 (by decide) (fun c24 => ?_) (fun c24 => ?_)
        · have h := h.1 c24
          obtain ⟨y10, ey10⟩ : ∃ z : Int32, z = x2 + 1 := ⟨_, rfl⟩
          have h := h y10 ey10
          refine lv_iinc (v := y10) (lv' := [(2, .int y10), (3, .ref (ad 6 w j6)), (0, .ref (ad 1 w 0)), (1, .ref (ad 7 w1 i1))]) hC.1 hC.2.1 dX7_lendOtherBookTo_74 hl (k := 3) rfl (by rw [ey10]; rfl) (by decide) rfl (fun ls hl => ?_)
          refine lv_goto (tgt := 2) hC.1 hC.2.1 dX7_lendOtherBookTo_77 (by decide) ?_
          exact kB2 _ _ _ _ _ h hS (lv_sub hl [2, 3, 0] rfl)
        · have h := h.2 c24
          refine lv_aload_n hC.1 hC.2.1 dX7_lendOtherBookTo_32 rfl (lv_at hl 0 rfl) ?_
          refine gn_6_1 hC hS hk7 wq_681 dX7_lendOtherBookTo_33 ?_
          refine lv_aload_n hC.1 hC.2.1 dX7_lendOtherBookTo_36 rfl (lv_at hl 2 rfl) ?_
          obtain ⟨hk11, h⟩ := h
          refine gn_7_2 hC hS hk11 wq_725 dX7_lendOtherBookTo_37 ?_
          refine lv_icmp_ne (tgt := 74) hC.1 hC.2.1 dX7_lendOtherBookTo_40 (by decide) (fun c23 => ?_) (fun c23 => ?_)
          · have h := h.2 c23
            obtain ⟨y22, ey22⟩ : ∃ z : Int32, z = x2 + 1 := ⟨_, rfl⟩
            have h := h y22 ey22
            refine lv_iinc (v := y22) (lv' := [(2, .int y22), (3, .ref (ad 6 w j6)), (0, .ref (ad 1 w 0)), (1, .ref (ad 7 w1 i1))]) hC.1 hC.2.1 dX7_lendOtherBookTo_74 hl (k := 3) rfl (by rw [ey22]; rfl) (by decide) rfl (fun ls hl => ?_)
            refine lv_goto (tgt := 2) hC.1 hC.2.1 dX7_lendOtherBookTo_77 (by decide) ?_
            exact kB2 _ _ _ _ _ h hS (lv_sub hl [2, 3, 0] rfl)
          · have h := h.1 c23
            refine lv_aload_n hC.1 hC.2.1 dX7_lendOtherBookTo_43 rfl (lv_at hl 0 rfl) ?_
            refine gn_6_2 hC hS hk7 wq_684 dX7_lendOtherBookTo_44 ?_
            obtain ⟨hk13, h⟩ := h
            refine g_calli0 hS (g_runV (n := 0) (rest := []) (As := []) (C := RX3) (T := TX3) (N := 2) hC hS hk13 rfl rfl (c_X3_size l G ks ad w j6 V8 _ h _) (gI wq_292 wq_293 wq_294 wq_63 wq_295) rfl ⟨⟨by decide +kernel, by decide +kernel, by decide +kernel⟩, rfl, rfl, Nat.le_of_ble_eq_true rfl, Nat.le_of_ble_eq_true rfl⟩ rfl hl rfl (Nat.le_of_ble_eq_true rfl) dX7_lendOtherBookTo_47 ⟨Nat.le_of_ble_eq_true rfl, Nat.le_of_ble_eq_true rfl⟩) (fun r14 V12 H locs h hS => ?_)
            refine lv_if_ne (tgt := 74) hC.1 hC.2.1 dX7_lendOtherBookTo_50 (by decide) (fun c21 => ?_) (fun c21 => ?_)
            · have h := h.2 c21
              obtain ⟨y20, ey20⟩ : ∃ z : Int32, z = x2 + 1 := ⟨_, rfl⟩
              have h := h y20 ey20
              refine lv_iinc (v := y20) (lv' := [(2, .int y20), (3, .ref (ad 6 w j6)), (0, .ref (ad 1 w 0)), (1, .ref (ad 7 w1 i1))]) hC.1 hC.2.1 dX7_lendOtherBookTo_74 hl (k := 3) rfl (by rw [ey20]; rfl) (by decide) rfl (fun ls hl => ?_)
              refine lv_goto (tgt := 2) hC.1 hC.2.1 dX7_lendOtherBookTo_77 (by decide) ?_
              exact kB2 _ _ _ _ _ h hS (lv_sub hl [2, 3, 0] rfl)
            · have h := h.1 c21
              refine lv_aload_n hC.1 hC.2.1 dX7_lendOtherBookTo_53 rfl (lv_at hl 2 rfl) ?_
              refine lv_aload_n hC.1 hC.2.1 dX7_lendOtherBookTo_54 rfl (lv_at hl 0 rfl) ?_
              refine gn_6_0 hC hS hk7 wq_679 dX7_lendOtherBookTo_55 ?_
              refine g_calli0 hS (g_runV (n := 1) (rest := []) (As := [.int (V12 6 w j6 0 0)]) (C := RX4) (T := TX4) (N := 8) hC hS hk11 rfl rfl (c_X4_hasRead l G ks ad w1 i1 (V12 6 w j6 0 0) V12 _ h _) (gI wq_304 wq_305 wq_306 wq_64 wq_307) rfl ⟨⟨by decide +kernel, by decide +kernel, by decide +kernel⟩, rfl, rfl, Nat.le_of_ble_eq_true rfl, Nat.le_of_ble_eq_true rfl⟩ rfl hl rfl (Nat.le_of_ble_eq_true rfl) dX7_lendOtherBookTo_58 ⟨Nat.le_of_ble_eq_true rfl, Nat.le_of_ble_eq_true rfl⟩) (fun r16 V15 H locs h hS => ?_)
              refine lv_if_ne (tgt := 74) hC.1 hC.2.1 dX7_lendOtherBookTo_61 (by decide) (fun c19 => ?_) (fun c19 => ?_)
              · have h := h.2 c19
                obtain ⟨y18, ey18⟩ : ∃ z : Int32, z = x2 + 1 := ⟨_, rfl⟩
                have h := h y18 ey18
                refine lv_iinc (v := y18) (lv' := [(2, .int y18), (3, .ref (ad 6 w j6)), (0, .ref (ad 1 w 0)), (1, .ref (ad 7 w1 i1))]) hC.1 hC.2.1 dX7_lendOtherBookTo_74 hl (k := 3) rfl (by rw [ey18]; rfl) (by decide) rfl (fun ls hl => ?_)
                refine lv_goto (tgt := 2) hC.1 hC.2.1 dX7_lendOtherBookTo_77 (by decide) ?_
                exact kB2 _ _ _ _ _ h hS (lv_sub hl [2, 3, 0] rfl)
              · have h := h.1 c19
                refine lv_aload_n hC.1 hC.2.1 dX7_lendOtherBookTo_64 rfl (lv_at hl 0 rfl) ?_
                refine lv_aload_n hC.1 hC.2.1 dX7_lendOtherBookTo_65 rfl (lv_at hl 2 rfl) ?_
                refine lv_aload_n hC.1 hC.2.1 dX7_lendOtherBookTo_66 rfl (lv_at hl 1 rfl) ?_
                refine gf_1_7 hC hS hk1 wq_146 dX7_lendOtherBookTo_67 ?_
                refine g_callv0 hS (g_runV (n := 2) (rest := []) (As := [.ref (ad 7 w1 i1), .int (V15 1 w 0 7 0)]) (C := RX0) (T := TX0) (N := 6) hC hS hk7 rfl rfl (c_X0_lendTo l G ks ad w j6 w1 i1 (V15 1 w 0 7 0) V15 _ h _) (gI wq_870 wq_871 wq_872 wq_62 wq_873) rfl ⟨⟨by decide +kernel, by decide +kernel, by decide +kernel⟩, rfl, rfl, Nat.le_of_ble_eq_true rfl, Nat.le_of_ble_eq_true rfl⟩ rfl hl rfl (Nat.le_of_ble_eq_true rfl) dX7_lendOtherBookTo_70 ⟨Nat.le_of_ble_eq_true rfl, Nat.le_of_ble_eq_true rfl⟩) (fun V17 H locs h hS => ?_)
                exact g_vret hC hr hlk hS h dX7_lendOtherBookTo_73
  refine lv_iconst (v := 0) hC.1 hC.2.1 dX7_lendOtherBookTo_0 (by decide) ?_
  refine lv_istore_n (lv' := [(2, .int 0), (0, .ref (ad 1 w 0)), (1, .ref (ad 7 w1 i1))]) hC.1 hC.2.1 dX7_lendOtherBookTo_1 rfl hl (by decide) rfl (fun ls hl => ?_)
  exact kT2 _ _ _ _ _ h hS (lv_sub hl [1, 2, 0] rfl)
def wk_X7_lendOtherBooks_2 (ks : List KY) (w : Nat) (a1 : Int32) (post : VS → Prop) (B2 : Int32 → VS → Prop) (x1 : Int32) (x2 : Int32) (V : VS) : Prop := ((1, w, 0) ∈ ks ∧ (2, w, 3) ∈ ks ∧ ((V 2 w 3 2 0) ≤ x2 → (post V)) ∧ (¬ ((V 2 w 3 2 0) ≤ x2) → ((3, w, 3) ∈ ks ∧ lsz V w 3 ≤ 33 ∧ (¬ x2 < 0 ∧ x2 < V 2 w 3 2 0) ∧ ∀ j6 : Nat, j6 = x2.toNatClampNeg → (7, w, j6) ∈ ks ∧ ((V 7 w j6 1 0) = x1 → (wp_X4_takesMore ks w j6 V (fun r9 V8 => ((r9 = 0 → (∀ y10 : Int32, y10 = x2 + 1 → B2 y10 V8)) ∧ (¬ (r9 = 0) → (wp_X7_lendOtherBookTo ks w w j6 V8 (fun V11 => (∀ y12 : Int32, y12 = x2 + 1 → B2 y12 V11)))))))) ∧ (¬ ((V 7 w j6 1 0) = x1) → (∀ y14 : Int32, y14 = x2 + 1 → B2 y14 V)))))
def wl_X7_lendOtherBooks_2 (ks : List KY) (w : Nat) (a1 : Int32) (post : VS → Prop) (x1 : Int32) (x2 : Int32) (V : VS) : Prop := ∃ J : Nat → Int32 → VS → Prop, (∃ n, J n x2 V) ∧ ∀ (n : Nat) (x2 : Int32) (V : VS), J n x2 V → wk_X7_lendOtherBooks_2 ks w a1 post (fun x2 V => ∃ n', n' < n ∧ J n' x2 V) x1 x2 V
def wp_X7_lendOtherBooks (ks : List KY) (w : Nat) (a1 : Int32) (V : VS) (post : VS → Prop) : Prop := (wl_X7_lendOtherBooks_2 ks w a1 post a1 0 V)
set_option maxHeartbeats 4000000 in
set_option maxRecDepth 100000 in
theorem c_X7_lendOtherBooks (l : Launch) (G : GG) (ks : List KY) (ad : AD) (w : Nat) (a1 : Int32) (V : VS) (post : VS → Prop) (h : wp_X7_lendOtherBooks ks w a1 V post) (sz : Nat) : Met l yX7_lendOtherBooks (ws_ yX7_lendOtherBooks cX7_lendOtherBooks 4 none) ({ frames := 4, cells := 0, slots := 0, locals := 87 }) (mPc [.ref (ad 1 w 0), .int a1] G ks ad V sz) (mQv post G ks ad sz) 0 0 (mA ks ad sz) := by
  refine g_met (own := RX7) (by decide) rfl (Nat.le_of_ble_eq_true rfl) ?_
  intro p e s m args below meth c ls hC hsz hr hlk hin hS ha hl
  have hl : lv_has ls 4 [(0, .ref (ad 1 w 0)), (1, .int a1)] := hl
  unfold wp_X7_lendOtherBooks at h
  have kT2 : ∀ (x1 : Int32) (x2 : Int32) (V : VS) (H : Heap) (locs : List Loc) (ls : Array Slot), wl_X7_lendOtherBooks_2 ks w a1 post x1 x2 V → ST G ks ad V (mA ks ad sz) s.heap H locs → lv_has ls 4 [(0, .ref (ad 1 w 0)), (1, .int x1), (2, .int x2)] → W p l e ({ frames := 4, cells := 0, slots := 0, locals := 87 } : Room) s m args below meth c H locs 0 0 (MQ below (mQv post G ks ad sz) args s 0 0 (mA ks ad sz)) (F0 m 2 ls []) := by
    intro x1 x2 V H locs ls h hS hl
    obtain ⟨J, ⟨n, hJ⟩, hb⟩ := h
    induction n using Nat.strongRecOn generalizing x2 V H locs ls with
    | _ n ih =>
      have h := hb n x2 V hJ
      obtain ⟨B2, eB⟩ : ∃ z : Int32 → VS → Prop, z = (fun x2 V => ∃ n', n' < n ∧ J n' x2 V) := ⟨_, rfl⟩
      rw [← eB] at h
      have kB2 : ∀ (x2 : Int32) (V : VS) (H : Heap) (locs : List Loc) (ls : Array Slot), B2 x2 V → ST G ks ad V (mA ks ad sz) s.heap H locs → lv_has ls 4 [(0, .ref (ad 1 w 0)), (1, .int x1), (2, .int x2)] → W p l e ({ frames := 4, cells := 0, slots := 0, locals := 87 } : Room) s m args below meth c H locs 0 0 (MQ below (mQv post G ks ad sz) args s 0 0 (mA ks ad sz)) (F0 m 2 ls []) := by
        intro x2 V H locs ls h hS hl
        rw [eB] at h
        obtain ⟨n', hn, hJ'⟩ := h
        exact ih n' hn _ _ _ _ _ hS hl hJ'
      clear ih hJ hb eB
      unfold wk_X7_lendOtherBooks_2 at h
      refine lv_iload_n hC.1 hC.2.1 dX7_lendOtherBooks_2 rfl (lv_at hl 2 rfl) ?_
      refine lv_aload_n hC.1 hC.2.1 dX7_lendOtherBooks_3 rfl (lv_at hl 0 rfl) ?_
      obtain ⟨hk1, h⟩ := h
      refine gf_1_3 hC hS hk1 wq_140 dX7_lendOtherBooks_4 ?_
      obtain ⟨hk2, h⟩ := h
      refine g_lsize hC hS hk2 wq_183 hl ⟨Nat.le_of_ble_eq_true rfl, Nat.le_of_ble_eq_true rfl, Nat.zero_le _⟩ (Nat.le_of_ble_eq_true rfl) dX7_lendOtherBooks_7 ⟨Nat.le_of_ble_eq_true rfl, Nat.le_of_ble_eq_true rfl⟩ (fun H locs hS => ?_)
      refine lv_icmp_ge (tgt := 51) hC.1 hC.2.1 dX7_lendOtherBooks_10 (by decide) (fun c16 => ?_) (fun c16 => ?_)
      · have h := h.1 c16
        exact g_vret hC hr hlk hS h dX7_lendOtherBooks_51
      · have h := h.2 c16
        refine lv_aload_n hC.1 hC.2.1 dX7_lendOtherBooks_13 rfl (lv_at hl 0 rfl) ?_
        refine gf_1_3 hC hS hk1 wq_140 dX7_lendOtherBooks_14 ?_
        refine lv_iload_n hC.1 hC.2.1 dX7_lendOtherBooks_17 rfl (lv_at hl 2 rfl) ?_
        obtain ⟨hk3, h⟩ := h
        obtain ⟨hq4, h⟩ := h
        obtain ⟨hx5, h⟩ := h
        refine g_lget (E := 7) hC hS rfl hk2 hk3 hq4 hx5.1 hx5.2 wq_187 hl ⟨Nat.le_of_ble_eq_true rfl, Nat.le_of_ble_eq_true rfl, Nat.zero_le _⟩ (Nat.le_of_ble_eq_true rfl) dX7_lendOtherBooks_18 ⟨Nat.le_of_ble_eq_true rfl, Nat.le_of_ble_eq_true rfl⟩ (fun j6 ej6 H locs hS => ?_)
        have h := h j6 ej6
        obtain ⟨hk7, h⟩ := h
        refine g_cast hC hS hk7 rfl (show vwCl[5]? = some (RX4, TX4, 8) from rfl) wq_228 dX7_lendOtherBooks_21 ?_
        refine lv_astore_n (lv' := [(3, .ref (ad 7 w j6)), (0, .ref (ad 1 w 0)), (1, .int x1), (2, .int x2)]) hC.1 hC.2.1 dX7_lendOtherBooks_24 rfl hl (by decide) rfl (fun ls hl => ?_)
        refine lv_aload_n hC.1 hC.2.1 dX7_lendOtherBooks_25 rfl (lv_at hl 0 rfl) ?_
        refine gn_7_1 hC hS hk7 wq_723 dX7_lendOtherBooks_26 ?_
        refine lv_iload_n hC.1 hC.2.1 dX7_lendOtherBooks_29 rfl (lv_at hl 2 rfl) ?_
        refine lv_icmp_ne (tgt := 45) hC.1 hC.2.1 dX7_lendOtherBooks_30 (by decide) (fun c15 => ?_) (fun c15 => ?_)
        · have h := h.2 c15
          obtain ⟨y14, ey14⟩ : ∃ z : Int32, z = x2 + 1 := ⟨_, rfl⟩
          have h := h y14 ey14
          refine lv_iinc (v := y14) (lv' := [(2, .int y14), (3, .ref (ad 7 w j6)), (0, .ref (ad 1 w 0)), (1, .int x1)]) hC.1 hC.2.1 dX7_lendOtherBooks_45 hl (k := 3) rfl (by rw [ey14]; rfl) (by decide) rfl (fun ls hl => ?_)
          refine lv_goto (tgt := 2) hC.1 hC.2.1 dX7_lendOtherBooks_48 (by decide) ?_
          exact kB2 _ _ _ _ _ h hS (lv_sub hl [2, 3, 0] rfl)
        · have h := h.1 c15
          refine lv_aload_n hC.1 hC.2.1 dX7_lendOtherBooks_33 rfl (lv_at hl 0 rfl) ?_
          refine g_calli0 hS (g_runV (n := 0) (rest := []) (As := []) (C := RX4) (T := TX4) (N := 8) hC hS hk7 rfl rfl (c_X4_takesMore l G ks ad w j6 V _ h _) (gI wq_865 wq_866 wq_867 wq_64 wq_868) rfl ⟨⟨by decide +kernel, by decide +kernel, by decide +kernel⟩, rfl, rfl, Nat.le_of_ble_eq_true rfl, Nat.le_of_ble_eq_true rfl⟩ rfl hl rfl (Nat.le_of_ble_eq_true rfl) dX7_lendOtherBooks_34 ⟨Nat.le_of_ble_eq_true rfl, Nat.le_of_ble_eq_true rfl⟩) (fun r9 V8 H locs h hS => ?_)
          refine lv_if_eq (tgt := 45) hC.1 hC.2.1 dX7_lendOtherBooks_37 (by decide) (fun c13 => ?_) (fun c13 => ?_)
          · have h := h.1 c13
            obtain ⟨y10, ey10⟩ : ∃ z : Int32, z = x2 + 1 := ⟨_, rfl⟩
            have h := h y10 ey10
            refine lv_iinc (v := y10) (lv' := [(2, .int y10), (3, .ref (ad 7 w j6)), (0, .ref (ad 1 w 0)), (1, .int x1)]) hC.1 hC.2.1 dX7_lendOtherBooks_45 hl (k := 3) rfl (by rw [ey10]; rfl) (by decide) rfl (fun ls hl => ?_)
            refine lv_goto (tgt := 2) hC.1 hC.2.1 dX7_lendOtherBooks_48 (by decide) ?_
            exact kB2 _ _ _ _ _ h hS (lv_sub hl [2, 3, 0] rfl)
          · have h := h.2 c13
            refine lv_aload_n hC.1 hC.2.1 dX7_lendOtherBooks_40 rfl (lv_at hl 1 rfl) ?_
            refine lv_aload_n hC.1 hC.2.1 dX7_lendOtherBooks_41 rfl (lv_at hl 0 rfl) ?_
            refine g_callv0 hS (g_runV (n := 1) (rest := []) (As := [.ref (ad 7 w j6)]) (C := RX7) (T := TX7) (N := 9) hC hS hk1 rfl rfl (c_X7_lendOtherBookTo l G ks ad w w j6 V8 _ h _) (gI wq_878 wq_880 wq_20 wq_40 wq_881) rfl ⟨⟨by decide +kernel, by decide +kernel, by decide +kernel⟩, rfl, rfl, Nat.le_of_ble_eq_true rfl, Nat.le_of_ble_eq_true rfl⟩ rfl hl rfl (Nat.le_of_ble_eq_true rfl) dX7_lendOtherBooks_42 ⟨Nat.le_of_ble_eq_true rfl, Nat.le_of_ble_eq_true rfl⟩) (fun V11 H locs h hS => ?_)
            obtain ⟨y12, ey12⟩ : ∃ z : Int32, z = x2 + 1 := ⟨_, rfl⟩
            have h := h y12 ey12
            refine lv_iinc (v := y12) (lv' := [(2, .int y12), (3, .ref (ad 7 w j6)), (0, .ref (ad 1 w 0)), (1, .int x1)]) hC.1 hC.2.1 dX7_lendOtherBooks_45 hl (k := 3) rfl (by rw [ey12]; rfl) (by decide) rfl (fun ls hl => ?_)
            refine lv_goto (tgt := 2) hC.1 hC.2.1 dX7_lendOtherBooks_48 (by decide) ?_
            exact kB2 _ _ _ _ _ h hS (lv_sub hl [2, 3, 0] rfl)
  refine lv_iconst (v := 0) hC.1 hC.2.1 dX7_lendOtherBooks_0 (by decide) ?_
  refine lv_istore_n (lv' := [(2, .int 0), (0, .ref (ad 1 w 0)), (1, .int a1)]) hC.1 hC.2.1 dX7_lendOtherBooks_1 rfl hl (by decide) rfl (fun ls hl => ?_)
  exact kT2 _ _ _ _ _ _ h hS (lv_sub hl [1, 2, 0] rfl)
def wb_X7_goRound_142 (ks : List KY) (w : Nat) (post : VS → Prop) (B24 : Int32 → Int32 → Int32 → VS → Prop) (x1 : Int32) (x2 : Int32) (x3 : Int32) (x4 : Int32) (x7 : Int32) (V : VS) : Prop := ((1, w, 0) ∈ ks ∧ wp_X7_noteVisit ks w x4 x7 V (fun V1 => (∀ y3 : Int32, y3 = x3 + 1 → B24 x1 x2 y3 V1)))
def wb_X7_goRound_107 (ks : List KY) (w : Nat) (post : VS → Prop) (B24 : Int32 → Int32 → Int32 → VS → Prop) (x1 : Int32) (x2 : Int32) (x3 : Int32) (x4 : Int32) (x5 : Int32) (s0 : Int32) (V : VS) : Prop := ((s0 = 0 → wb_X7_goRound_142 ks w post B24 x1 x2 x3 x4 s0 V) ∧ (¬ (s0 = 0) → (∀ y4 : Int32, y4 = x2 + (x5 + 5) → (1, w, 0) ∈ ks ∧ wp_X7_takeBooksBack ks w x4 V (fun V5 => (wp_X7_lendReservedBooks ks w x4 V5 (fun V7 => (wp_X7_lendOtherBooks ks w x4 V7 (fun V8 => wb_X7_goRound_142 ks w post B24 x4 y4 x3 x4 s0 V8))))))))
def wk_X7_goRound_24 (ks : List KY) (w : Nat) (post : VS → Prop) (B24 : Int32 → Int32 → Int32 → VS → Prop) (x1 : Int32) (x2 : Int32) (x3 : Int32) (V : VS) : Prop := ((1, w, 0) ∈ ks ∧ (12, w, 0) ∈ ks ∧ wp_X5_size ks w V (fun r13 V11 => ((r13 ≤ x3 → ((x2 ≤ 0 → (∀ V14 : VS, V14 = vup V11 1 w 0 8 0 0 → post V14)) ∧ (¬ (x2 ≤ 0) → ((10, w, 0) ∈ ks ∧ wp_X6_time ks w x1 0 V11 (fun r17 V15 => (∀ V18 : VS, V18 = vup V15 1 w 0 8 0 (x2 + r17) → post V18)))))) ∧ (¬ (r13 ≤ x3) → (wp_X5_haltAt ks w x3 V11 (fun r21 V20 => ((10, w, 0) ∈ ks ∧ wp_X6_time ks w x1 r21 V20 (fun r24 V22 => (wp_X6_time ks w r21 0 V22 (fun r26 V25 => (((1000000 : Int32) ≤ r24 → (wb_X7_goRound_107 ks w post B24 x1 x2 x3 r21 r24 0 V25)) ∧ (¬ ((1000000 : Int32) ≤ r24) → (((1000000 : Int32) ≤ r26 → (wb_X7_goRound_107 ks w post B24 x1 x2 x3 r21 r24 0 V25)) ∧ (¬ ((1000000 : Int32) ≤ r26) → (((V25 12 w 0 2 0) < (((x2 + r24) + 5) + r26) → (wb_X7_goRound_107 ks w post B24 x1 x2 x3 r21 r24 0 V25)) ∧ (¬ ((V25 12 w 0 2 0) < (((x2 + r24) + 5) + r26)) → (wb_X7_goRound_107 ks w post B24 x1 x2 x3 r21 r24 1 V25)))))))))))))))))
def wl_X7_goRound_24 (ks : List KY) (w : Nat) (post : VS → Prop) (x1 : Int32) (x2 : Int32) (x3 : Int32) (V : VS) : Prop := ∃ J : Nat → Int32 → Int32 → Int32 → VS → Prop, (∃ n, J n x1 x2 x3 V) ∧ ∀ (n : Nat) (x1 : Int32) (x2 : Int32) (x3 : Int32) (V : VS), J n x1 x2 x3 V → wk_X7_goRound_24 ks w post (fun x1 x2 x3 V => ∃ n', n' < n ∧ J n' x1 x2 x3 V) x1 x2 x3 V
def wp_X7_goRound (ks : List KY) (w : Nat) (V : VS) (post : VS → Prop) : Prop := ((1, w, 0) ∈ ks ∧ (2, w, 0) ∈ ks ∧ (10, w, 0) ∈ ks ∧ wp_X6_measure ks w w (V 2 w 0 2 0) V (fun V33 => (wl_X7_goRound_24 ks w post 0 0 0 V33)))
set_option maxHeartbeats 4000000 in
set_option maxRecDepth 100000 in
theorem c_X7_goRound (l : Launch) (G : GG) (ks : List KY) (ad : AD) (w : Nat) (V : VS) (post : VS → Prop) (h : wp_X7_goRound ks w V post) (sz : Nat) : Met l yX7_goRound (ws_ yX7_goRound cX7_goRound 8 none) ({ frames := 5, cells := 0, slots := 0, locals := 110 }) (mPc [.ref (ad 1 w 0)] G ks ad V sz) (mQv post G ks ad sz) 0 0 (mA ks ad sz) := by
  refine g_met (own := RX7) (by decide) rfl (Nat.le_of_ble_eq_true rfl) ?_
  intro p e s m args below meth c ls hC hsz hr hlk hin hS ha hl
  have hl : lv_has ls 8 [(0, .ref (ad 1 w 0))] := hl
  unfold wp_X7_goRound at h
  have kT24 : ∀ (x1 : Int32) (x2 : Int32) (x3 : Int32) (V : VS) (H : Heap) (locs : List Loc) (ls : Array Slot), wl_X7_goRound_24 ks w post x1 x2 x3 V → ST G ks ad V (mA ks ad sz) s.heap H locs → lv_has ls 8 [(0, .ref (ad 1 w 0)), (1, .int x1), (2, .int x2), (3, .int x3)] → W p l e ({ frames := 5, cells := 0, slots := 0, locals := 110 } : Room) s m args below meth c H locs 0 0 (MQ below (mQv post G ks ad sz) args s 0 0 (mA ks ad sz)) (F0 m 24 ls []) := by
    intro x1 x2 x3 V H locs ls h hS hl
    obtain ⟨J, ⟨n, hJ⟩, hb⟩ := h
    induction n using Nat.strongRecOn generalizing x1 x2 x3 V H locs ls with
    | _ n ih =>
      have h := hb n x1 x2 x3 V hJ
      obtain ⟨B24, eB⟩ : ∃ z : Int32 → Int32 → Int32 → VS → Prop, z = (fun x1 x2 x3 V => ∃ n', n' < n ∧ J n' x1 x2 x3 V) := ⟨_, rfl⟩
      rw [← eB] at h
      have kB24 : ∀ (x1 : Int32) (x2 : Int32) (x3 : Int32) (V : VS) (H : Heap) (locs : List Loc) (ls : Array Slot), B24 x1 x2 x3 V → ST G ks ad V (mA ks ad sz) s.heap H locs → lv_has ls 8 [(0, .ref (ad 1 w 0)), (1, .int x1), (2, .int x2), (3, .int x3)] → W p l e ({ frames := 5, cells := 0, slots := 0, locals := 110 } : Room) s m args below meth c H locs 0 0 (MQ below (mQv post G ks ad sz) args s 0 0 (mA ks ad sz)) (F0 m 24 ls []) := by
        intro x1 x2 x3 V H locs ls h hS hl
        rw [eB] at h
        obtain ⟨n', hn, hJ'⟩ := h
        exact ih n' hn _ _ _ _ _ _ _ hS hl hJ'
      clear ih hJ hb eB
      unfold wk_X7_goRound_24 at h
      have kT142 : ∀ (x1 : Int32) (x2 : Int32) (x3 : Int32) (x4 : Int32) (x7 : Int32) (V : VS) (H : Heap) (locs : List Loc) (ls : Array Slot), wb_X7_goRound_142 ks w post B24 x1 x2 x3 x4 x7 V → ST G ks ad V (mA ks ad sz) s.heap H locs → lv_has ls 8 [(0, .ref (ad 1 w 0)), (1, .int x1), (2, .int x2), (3, .int x3), (4, .int x4), (7, .int x7)] → W p l e ({ frames := 5, cells := 0, slots := 0, locals := 110 } : Room) s m args below meth c H locs 0 0 (MQ below (mQv post G ks ad sz) args s 0 0 (mA ks ad sz)) (F0 m 142 ls []) := by
        intro x1 x2 x3 x4 x7 V H locs ls h hS hl
        unfold wb_X7_goRound_142 at h
        refine lv_aload_n hC.1 hC.2.1 dX7_goRound_142 rfl (lv_at hl 0 rfl) ?_
        refine lv_iload hC.1 hC.2.1 dX7_goRound_143 (lv_at hl 4 rfl) ?_
        refine lv_iload hC.1 hC.2.1 dX7_goRound_145 (lv_at hl 5 rfl) ?_
        obtain ⟨hk2, h⟩ := h
        refine g_callv0 hS (g_runV (n := 2) (rest := []) (As := [.int x4, .int x7]) (C := RX7) (T := TX7) (N := 9) hC hS hk2 rfl rfl (c_X7_noteVisit l G ks ad w x4 x7 V _ h _) (gI wq_882 wq_884 wq_21 wq_40 wq_885) rfl ⟨⟨by decide +kernel, by decide +kernel, by decide +kernel⟩, rfl, rfl, Nat.le_of_ble_eq_true rfl, Nat.le_of_ble_eq_true rfl⟩ rfl hl rfl (Nat.le_of_ble_eq_true rfl) dX7_goRound_147 ⟨Nat.le_of_ble_eq_true rfl, Nat.le_of_ble_eq_true rfl⟩) (fun V1 H locs h hS => ?_)
        obtain ⟨y3, ey3⟩ : ∃ z : Int32, z = x3 + 1 := ⟨_, rfl⟩
        have h := h y3 ey3
        refine lv_iinc (v := y3) (lv' := [(3, .int y3), (0, .ref (ad 1 w 0)), (1, .int x1), (2, .int x2), (4, .int x4), (7, .int x7)]) hC.1 hC.2.1 dX7_goRound_150 hl (k := 3) rfl (by rw [ey3]; rfl) (by decide) rfl (fun ls hl => ?_)
        refine lv_goto (tgt := 24) hC.1 hC.2.1 dX7_goRound_153 (by decide) ?_
        exact kB24 _ _ _ _ _ _ _ h hS (lv_sub hl [1, 2, 3, 0] rfl)
      have kT107 : ∀ (x1 : Int32) (x2 : Int32) (x3 : Int32) (x4 : Int32) (x5 : Int32) (s0 : Int32) (V : VS) (H : Heap) (locs : List Loc) (ls : Array Slot), wb_X7_goRound_107 ks w post B24 x1 x2 x3 x4 x5 s0 V → ST G ks ad V (mA ks ad sz) s.heap H locs → lv_has ls 8 [(0, .ref (ad 1 w 0)), (1, .int x1), (2, .int x2), (3, .int x3), (4, .int x4), (5, .int x5)] → W p l e ({ frames := 5, cells := 0, slots := 0, locals := 110 } : Room) s m args below meth c H locs 0 0 (MQ below (mQv post G ks ad sz) args s 0 0 (mA ks ad sz)) (F0 m 107 ls [.int s0]) := by
        intro x1 x2 x3 x4 x5 s0 V H locs ls h hS hl
        unfold wb_X7_goRound_107 at h
        refine lv_istore (lv' := [(7, .int s0), (0, .ref (ad 1 w 0)), (1, .int x1), (2, .int x2), (3, .int x3), (4, .int x4), (5, .int x5)]) hC.1 hC.2.1 dX7_goRound_107 hl (by decide) rfl (fun ls hl => ?_)
        refine lv_iload hC.1 hC.2.1 dX7_goRound_109 (lv_at hl 0 rfl) ?_
        refine lv_if_eq (tgt := 142) hC.1 hC.2.1 dX7_goRound_111 (by decide) (fun c9 => ?_) (fun c9 => ?_)
        · have h := h.1 c9
          exact kT142 _ _ _ _ _ _ _ _ _ h hS (lv_sub hl [1, 2, 3, 4, 5, 0] rfl)
        · have h := h.2 c9
          refine lv_iload_n hC.1 hC.2.1 dX7_goRound_114 rfl (lv_at hl 3 rfl) ?_
          refine lv_iload hC.1 hC.2.1 dX7_goRound_115 (lv_at hl 6 rfl) ?_
          refine lv_iconst (v := 5) hC.1 hC.2.1 dX7_goRound_117 (by decide) ?_
          refine lv_iadd hC.1 hC.2.1 dX7_goRound_118 ?_
          refine lv_iadd hC.1 hC.2.1 dX7_goRound_119 ?_
          refine lv_topi (fun y4 ey4 => ?_)
          have h := h y4 ey4
          refine lv_istore_n (lv' := [(2, .int y4), (7, .int s0), (0, .ref (ad 1 w 0)), (1, .int x1), (3, .int x3), (4, .int x4), (5, .int x5)]) hC.1 hC.2.1 dX7_goRound_120 rfl hl (by decide) rfl (fun ls hl => ?_)
          refine lv_iload hC.1 hC.2.1 dX7_goRound_121 (lv_at hl 5 rfl) ?_
          refine lv_istore_n (lv' := [(1, .int x4), (2, .int y4), (7, .int s0), (0, .ref (ad 1 w 0)), (3, .int x3), (4, .int x4), (5, .int x5)]) hC.1 hC.2.1 dX7_goRound_123 rfl hl (by decide) rfl (fun ls hl => ?_)
          refine lv_aload_n hC.1 hC.2.1 dX7_goRound_124 rfl (lv_at hl 3 rfl) ?_
          refine lv_iload hC.1 hC.2.1 dX7_goRound_125 (lv_at hl 5 rfl) ?_
          obtain ⟨hk6, h⟩ := h
          refine g_callv0 hS (g_runV (n := 1) (rest := []) (As := [.int x4]) (C := RX7) (T := TX7) (N := 9) hC hS hk6 rfl rfl (c_X7_takeBooksBack l G ks ad w x4 V _ h _) (gI wq_849 wq_851 wq_16 wq_40 wq_852) rfl ⟨⟨by decide +kernel, by decide +kernel, by decide +kernel⟩, rfl, rfl, Nat.le_of_ble_eq_true rfl, Nat.le_of_ble_eq_true rfl⟩ rfl hl rfl (Nat.le_of_ble_eq_true rfl) dX7_goRound_127 ⟨Nat.le_of_ble_eq_true rfl, Nat.le_of_ble_eq_true rfl⟩) (fun V5 H locs h hS => ?_)
          refine lv_aload_n hC.1 hC.2.1 dX7_goRound_130 rfl (lv_at hl 3 rfl) ?_
          refine lv_iload hC.1 hC.2.1 dX7_goRound_131 (lv_at hl 5 rfl) ?_
          refine g_callv0 hS (g_runV (n := 1) (rest := []) (As := [.int x4]) (C := RX7) (T := TX7) (N := 9) hC hS hk6 rfl rfl (c_X7_lendReservedBooks l G ks ad w x4 V5 _ h _) (gI wq_861 wq_863 wq_18 wq_40 wq_864) rfl ⟨⟨by decide +kernel, by decide +kernel, by decide +kernel⟩, rfl, rfl, Nat.le_of_ble_eq_true rfl, Nat.le_of_ble_eq_true rfl⟩ rfl hl rfl (Nat.le_of_ble_eq_true rfl) dX7_goRound_133 ⟨Nat.le_of_ble_eq_true rfl, Nat.le_of_ble_eq_true rfl⟩) (fun V7 H locs h hS => ?_)
          refine lv_aload_n hC.1 hC.2.1 dX7_goRound_136 rfl (lv_at hl 3 rfl) ?_
          refine lv_iload hC.1 hC.2.1 dX7_goRound_137 (lv_at hl 5 rfl) ?_
          refine g_callv0 hS (g_runV (n := 1) (rest := []) (As := [.int x4]) (C := RX7) (T := TX7) (N := 9) hC hS hk6 rfl rfl (c_X7_lendOtherBooks l G ks ad w x4 V7 _ h _) (gI wq_874 wq_876 wq_19 wq_40 wq_877) rfl ⟨⟨by decide +kernel, by decide +kernel, by decide +kernel⟩, rfl, rfl, Nat.le_of_ble_eq_true rfl, Nat.le_of_ble_eq_true rfl⟩ rfl hl rfl (Nat.le_of_ble_eq_true rfl) dX7_goRound_139 ⟨Nat.le_of_ble_eq_true rfl, Nat.le_of_ble_eq_true rfl⟩) (fun V8 H locs h hS => ?_)
          exact kT142 _ _ _ _ _ _ _ _ _ h hS (lv_sub hl [3, 0, 1, 4, 5, 2] rfl)
      refine lv_iload_n hC.1 hC.2.1 dX7_goRound_24 rfl (lv_at hl 3 rfl) ?_
      refine lv_aload_n hC.1 hC.2.1 dX7_goRound_25 rfl (lv_at hl 0 rfl) ?_
      obtain ⟨hk10, h⟩ := h
      refine gf_1_5 hC hS hk10 wq_143 dX7_goRound_26 ?_
      obtain ⟨hk12, h⟩ := h
      refine g_calli0 hS (g_runV (n := 0) (rest := [.int x3]) (As := []) (C := RX5) (T := TX5) (N := 3) hC hS hk12 rfl rfl (c_X5_size l G ks ad w V _ h _) (gI wq_246 wq_247 wq_248 wq_45 wq_249) rfl ⟨⟨by decide +kernel, by decide +kernel, by decide +kernel⟩, rfl, rfl, Nat.le_of_ble_eq_true rfl, Nat.le_of_ble_eq_true rfl⟩ rfl hl rfl (Nat.le_of_ble_eq_true rfl) dX7_goRound_29 ⟨Nat.le_of_ble_eq_true rfl, Nat.le_of_ble_eq_true rfl⟩) (fun r13 V11 H locs h hS => ?_)
      refine lv_icmp_ge (tgt := 156) hC.1 hC.2.1 dX7_goRound_32 (by decide) (fun c30 => ?_) (fun c30 => ?_)
      · have h := h.1 c30
        refine lv_aload_n hC.1 hC.2.1 dX7_goRound_156 rfl (lv_at hl 0 rfl) ?_
        refine lv_iload_n hC.1 hC.2.1 dX7_goRound_157 rfl (lv_at hl 2 rfl) ?_
        refine lv_if_le (tgt := 175) hC.1 hC.2.1 dX7_goRound_158 (by decide) (fun c19 => ?_) (fun c19 => ?_)
        · have h := h.1 c19
          refine lv_iconst (v := 0) hC.1 hC.2.1 dX7_goRound_175 (by decide) ?_
          refine pf_1_8 hC hS hk10 wq_148 dX7_goRound_176 (fun H locs hS => ?_)
          obtain ⟨V14, eV14⟩ : ∃ z : VS, z = vup V11 1 w 0 8 0 0 := ⟨_, rfl⟩
          rw [← eV14] at hS
          have h := h V14 eV14
          exact g_vret hC hr hlk hS h dX7_goRound_179
        · have h := h.2 c19
          refine lv_iload_n hC.1 hC.2.1 dX7_goRound_161 rfl (lv_at hl 2 rfl) ?_
          refine lv_aload_n hC.1 hC.2.1 dX7_goRound_162 rfl (lv_at hl 0 rfl) ?_
          refine gf_1_4 hC hS hk10 wq_142 dX7_goRound_163 ?_
          refine lv_iload_n hC.1 hC.2.1 dX7_goRound_166 rfl (lv_at hl 1 rfl) ?_
          refine lv_iconst (v := 0) hC.1 hC.2.1 dX7_goRound_167 (by decide) ?_
          obtain ⟨hk16, h⟩ := h
          refine g_calli0 hS (g_runV (n := 2) (rest := [.int x2, .ref (ad 1 w 0)]) (As := [.int x1, .int 0]) (C := RX6) (T := TX6) (N := 1) hC hS hk16 rfl rfl (c_X6_time l G ks ad w x1 0 V11 _ h _) (gI wq_648 wq_645 wq_646 wq_44 wq_647) rfl ⟨⟨by decide +kernel, by decide +kernel, by decide +kernel⟩, rfl, rfl, Nat.le_of_ble_eq_true rfl, Nat.le_of_ble_eq_true rfl⟩ rfl hl rfl (Nat.le_of_ble_eq_true rfl) dX7_goRound_168 ⟨Nat.le_of_ble_eq_true rfl, Nat.le_of_ble_eq_true rfl⟩) (fun r17 V15 H locs h hS => ?_)
          refine lv_iadd hC.1 hC.2.1 dX7_goRound_171 ?_
          refine lv_goto (tgt := 176) hC.1 hC.2.1 dX7_goRound_172 (by decide) ?_
          refine pf_1_8 hC hS hk10 wq_148 dX7_goRound_176 (fun H locs hS => ?_)
          obtain ⟨V18, eV18⟩ : ∃ z : VS, z = vup V15 1 w 0 8 0 (x2 + r17) := ⟨_, rfl⟩
          rw [← eV18] at hS
          have h := h V18 eV18
          exact g_vret hC hr hlk hS h dX7_goRound_179
      · have h := h.2 c30
        refine lv_aload_n hC.1 hC.2.1 dX7_goRound_35 rfl (lv_at hl 0 rfl) ?_
        refine gf_1_5 hC hS hk10 wq_143 dX7_goRound_36 ?_
        refine lv_iload_n hC.1 hC.2.1 dX7_goRound_39 rfl (lv_at hl 3 rfl) ?_
        refine g_calli0 hS (g_runV (n := 1) (rest := []) (As := [.int x3]) (C := RX5) (T := TX5) (N := 3) hC hS hk12 rfl rfl (c_X5_haltAt l G ks ad w x3 V11 _ h _) (gI wq_250 wq_251 wq_252 wq_45 wq_253) rfl ⟨⟨by decide +kernel, by decide +kernel, by decide +kernel⟩, rfl, rfl, Nat.le_of_ble_eq_true rfl, Nat.le_of_ble_eq_true rfl⟩ rfl hl rfl (Nat.le_of_ble_eq_true rfl) dX7_goRound_40 ⟨Nat.le_of_ble_eq_true rfl, Nat.le_of_ble_eq_true rfl⟩) (fun r21 V20 H locs h hS => ?_)
        refine lv_istore (lv' := [(4, .int r21), (0, .ref (ad 1 w 0)), (1, .int x1), (2, .int x2), (3, .int x3)]) hC.1 hC.2.1 dX7_goRound_43 hl (by decide) rfl (fun ls hl => ?_)
        refine lv_aload_n hC.1 hC.2.1 dX7_goRound_45 rfl (lv_at hl 1 rfl) ?_
        refine gf_1_4 hC hS hk10 wq_142 dX7_goRound_46 ?_
        refine lv_iload_n hC.1 hC.2.1 dX7_goRound_49 rfl (lv_at hl 2 rfl) ?_
        refine lv_iload hC.1 hC.2.1 dX7_goRound_50 (lv_at hl 0 rfl) ?_
        obtain ⟨hk23, h⟩ := h
        refine g_calli0 hS (g_runV (n := 2) (rest := []) (As := [.int x1, .int r21]) (C := RX6) (T := TX6) (N := 1) hC hS hk23 rfl rfl (c_X6_time l G ks ad w x1 r21 V20 _ h _) (gI wq_648 wq_645 wq_646 wq_44 wq_647) rfl ⟨⟨by decide +kernel, by decide +kernel, by decide +kernel⟩, rfl, rfl, Nat.le_of_ble_eq_true rfl, Nat.le_of_ble_eq_true rfl⟩ rfl hl rfl (Nat.le_of_ble_eq_true rfl) dX7_goRound_52 ⟨Nat.le_of_ble_eq_true rfl, Nat.le_of_ble_eq_true rfl⟩) (fun r24 V22 H locs h hS => ?_)
        refine lv_istore (lv' := [(5, .int r24), (4, .int r21), (0, .ref (ad 1 w 0)), (1, .int x1), (2, .int x2), (3, .int x3)]) hC.1 hC.2.1 dX7_goRound_55 hl (by decide) rfl (fun ls hl => ?_)
        refine lv_aload_n hC.1 hC.2.1 dX7_goRound_57 rfl (lv_at hl 2 rfl) ?_
        refine gf_1_4 hC hS hk10 wq_142 dX7_goRound_58 ?_
        refine lv_iload hC.1 hC.2.1 dX7_goRound_61 (lv_at hl 1 rfl) ?_
        refine lv_iconst (v := 0) hC.1 hC.2.1 dX7_goRound_63 (by decide) ?_
        refine g_calli0 hS (g_runV (n := 2) (rest := []) (As := [.int r21, .int 0]) (C := RX6) (T := TX6) (N := 1) hC hS hk23 rfl rfl (c_X6_time l G ks ad w r21 0 V22 _ h _) (gI wq_648 wq_645 wq_646 wq_44 wq_647) rfl ⟨⟨by decide +kernel, by decide +kernel, by decide +kernel⟩, rfl, rfl, Nat.le_of_ble_eq_true rfl, Nat.le_of_ble_eq_true rfl⟩ rfl hl rfl (Nat.le_of_ble_eq_true rfl) dX7_goRound_64 ⟨Nat.le_of_ble_eq_true rfl, Nat.le_of_ble_eq_true rfl⟩) (fun r26 V25 H locs h hS => ?_)
        refine lv_istore (lv' := [(6, .int r26), (5, .int r24), (4, .int r21), (0, .ref (ad 1 w 0)), (1, .int x1), (2, .int x2), (3, .int x3)]) hC.1 hC.2.1 dX7_goRound_67 hl (by decide) rfl (fun ls hl => ?_)
        refine lv_iload hC.1 hC.2.1 dX7_goRound_69 (lv_at hl 1 rfl) ?_
        refine lv_ldc hC.1 hC.2.1 hC.2.2.2.1 (hC.2.2.2.2.1 _ wq_649) dX7_goRound_71 ?_
        refine lv_icmp_ge (tgt := 106) hC.1 hC.2.1 dX7_goRound_73 (by decide) (fun c29 => ?_) (fun c29 => ?_)
        · have h := h.1 c29
          refine lv_iconst (v := 0) hC.1 hC.2.1 dX7_goRound_106 (by decide) ?_
          exact kT107 _ _ _ _ _ _ _ _ _ _ h hS (lv_sub hl [3, 4, 5, 6, 2, 1] rfl)
        · have h := h.2 c29
          refine lv_iload hC.1 hC.2.1 dX7_goRound_76 (lv_at hl 0 rfl) ?_
          refine lv_ldc hC.1 hC.2.1 hC.2.2.2.1 (hC.2.2.2.2.1 _ wq_649) dX7_goRound_78 ?_
          refine lv_icmp_ge (tgt := 106) hC.1 hC.2.1 dX7_goRound_80 (by decide) (fun c28 => ?_) (fun c28 => ?_)
          · have h := h.1 c28
            refine lv_iconst (v := 0) hC.1 hC.2.1 dX7_goRound_106 (by decide) ?_
            exact kT107 _ _ _ _ _ _ _ _ _ _ h hS (lv_sub hl [3, 4, 5, 6, 2, 1] rfl)
          · have h := h.2 c28
            refine lv_iload_n hC.1 hC.2.1 dX7_goRound_83 rfl (lv_at hl 5 rfl) ?_
            refine lv_iload hC.1 hC.2.1 dX7_goRound_84 (lv_at hl 1 rfl) ?_
            refine lv_iadd hC.1 hC.2.1 dX7_goRound_86 ?_
            refine lv_iconst (v := 5) hC.1 hC.2.1 dX7_goRound_87 (by decide) ?_
            refine lv_iadd hC.1 hC.2.1 dX7_goRound_88 ?_
            refine lv_iload hC.1 hC.2.1 dX7_goRound_89 (lv_at hl 0 rfl) ?_
            refine lv_iadd hC.1 hC.2.1 dX7_goRound_91 ?_
            refine lv_aload_n hC.1 hC.2.1 dX7_goRound_92 rfl (lv_at hl 3 rfl) ?_
            refine gf_1_5 hC hS hk10 wq_143 dX7_goRound_93 ?_
            refine gn_12_2 hC hS hk12 wq_126 dX7_goRound_96 ?_
            refine lv_icmp_gt (tgt := 106) hC.1 hC.2.1 dX7_goRound_99 (by decide) (fun c27 => ?_) (fun c27 => ?_)
            · have h := h.1 c27
              refine lv_iconst (v := 0) hC.1 hC.2.1 dX7_goRound_106 (by decide) ?_
              exact kT107 _ _ _ _ _ _ _ _ _ _ h hS (lv_sub hl [3, 4, 5, 6, 2, 1] rfl)
            · have h := h.2 c27
              refine lv_iconst (v := 1) hC.1 hC.2.1 dX7_goRound_102 (by decide) ?_
              refine lv_goto (tgt := 107) hC.1 hC.2.1 dX7_goRound_103 (by decide) ?_
              exact kT107 _ _ _ _ _ _ _ _ _ _ h hS (lv_sub hl [3, 4, 5, 6, 2, 1] rfl)
  refine lv_aload_n hC.1 hC.2.1 dX7_goRound_0 rfl (lv_at hl 0 rfl) ?_
  obtain ⟨hk31, h⟩ := h
  refine gf_1_4 hC hS hk31 wq_142 dX7_goRound_1 ?_
  refine lv_aload_n hC.1 hC.2.1 dX7_goRound_4 rfl (lv_at hl 0 rfl) ?_
  refine gf_1_0 hC hS hk31 wq_134 dX7_goRound_5 ?_
  obtain ⟨hk32, h⟩ := h
  refine g_lsize hC hS hk32 wq_183 hl ⟨Nat.le_of_ble_eq_true rfl, Nat.le_of_ble_eq_true rfl, Nat.zero_le _⟩ (Nat.le_of_ble_eq_true rfl) dX7_goRound_8 ⟨Nat.le_of_ble_eq_true rfl, Nat.le_of_ble_eq_true rfl⟩ (fun H locs hS => ?_)
  refine lv_aload_n hC.1 hC.2.1 dX7_goRound_11 rfl (lv_at hl 0 rfl) ?_
  refine gf_1_1 hC hS hk31 wq_136 dX7_goRound_12 ?_
  obtain ⟨hk34, h⟩ := h
  refine g_callv0 hS (g_runV (n := 2) (rest := []) (As := [.int (V 2 w 0 2 0), .ref (ad 2 w 1)]) (C := RX6) (T := TX6) (N := 1) hC hS hk34 rfl rfl (c_X6_measure l G ks ad w w (V 2 w 0 2 0) V _ h _) (gI wq_630 wq_631 wq_632 wq_44 wq_633) rfl ⟨⟨by decide +kernel, by decide +kernel, by decide +kernel⟩, rfl, rfl, Nat.le_of_ble_eq_true rfl, Nat.le_of_ble_eq_true rfl⟩ rfl hl rfl (Nat.le_of_ble_eq_true rfl) dX7_goRound_15 ⟨Nat.le_of_ble_eq_true rfl, Nat.le_of_ble_eq_true rfl⟩) (fun V33 H locs h hS => ?_)
  refine lv_iconst (v := 0) hC.1 hC.2.1 dX7_goRound_18 (by decide) ?_
  refine lv_istore_n (lv' := [(1, .int 0), (0, .ref (ad 1 w 0))]) hC.1 hC.2.1 dX7_goRound_19 rfl hl (by decide) rfl (fun ls hl => ?_)
  refine lv_iconst (v := 0) hC.1 hC.2.1 dX7_goRound_20 (by decide) ?_
  refine lv_istore_n (lv' := [(2, .int 0), (1, .int 0), (0, .ref (ad 1 w 0))]) hC.1 hC.2.1 dX7_goRound_21 rfl hl (by decide) rfl (fun ls hl => ?_)
  refine lv_iconst (v := 0) hC.1 hC.2.1 dX7_goRound_22 (by decide) ?_
  refine lv_istore_n (lv' := [(3, .int 0), (2, .int 0), (1, .int 0), (0, .ref (ad 1 w 0))]) hC.1 hC.2.1 dX7_goRound_23 rfl hl (by decide) rfl (fun ls hl => ?_)
  exact kT24 _ _ _ _ _ _ _ h hS (lv_sub hl [3, 2, 1, 0] rfl)
def wk_X7_passDays_2 (ks : List KY) (w : Nat) (a1 : Int32) (post : VS → Prop) (B2 : Int32 → VS → Prop) (x1 : Int32) (x2 : Int32) (V : VS) : Prop := ((x1 ≤ x2 → (post V)) ∧ (¬ (x1 ≤ x2) → ((1, w, 0) ∈ ks ∧ wp_X7_weather ks w V (fun V1 => (wp_X7_goRound ks w V1 (fun V3 => (∀ V4 : VS, V4 = vup V3 1 w 0 7 0 ((V3 1 w 0 7 0) + 1) → ∀ y5 : Int32, y5 = x2 + 1 → B2 y5 V4)))))))
def wl_X7_passDays_2 (ks : List KY) (w : Nat) (a1 : Int32) (post : VS → Prop) (x1 : Int32) (x2 : Int32) (V : VS) : Prop := ∃ J : Nat → Int32 → VS → Prop, (∃ n, J n x2 V) ∧ ∀ (n : Nat) (x2 : Int32) (V : VS), J n x2 V → wk_X7_passDays_2 ks w a1 post (fun x2 V => ∃ n', n' < n ∧ J n' x2 V) x1 x2 V
def wp_X7_passDays (ks : List KY) (w : Nat) (a1 : Int32) (V : VS) (post : VS → Prop) : Prop := (wl_X7_passDays_2 ks w a1 post a1 0 V)
set_option maxHeartbeats 4000000 in
set_option maxRecDepth 100000 in
theorem c_X7_passDays (l : Launch) (G : GG) (ks : List KY) (ad : AD) (w : Nat) (a1 : Int32) (V : VS) (post : VS → Prop) (h : wp_X7_passDays ks w a1 V post) (sz : Nat) : Met l yX7_passDays (ws_ yX7_passDays cX7_passDays 3 none) ({ frames := 6, cells := 0, slots := 0, locals := 137 }) (mPc [.ref (ad 1 w 0), .int a1] G ks ad V sz) (mQv post G ks ad sz) 0 0 (mA ks ad sz) := by
  refine g_met (own := RX7) (by decide) rfl (Nat.le_of_ble_eq_true rfl) ?_
  intro p e s m args below meth c ls hC hsz hr hlk hin hS ha hl
  have hl : lv_has ls 3 [(0, .ref (ad 1 w 0)), (1, .int a1)] := hl
  unfold wp_X7_passDays at h
  have kT2 : ∀ (x1 : Int32) (x2 : Int32) (V : VS) (H : Heap) (locs : List Loc) (ls : Array Slot), wl_X7_passDays_2 ks w a1 post x1 x2 V → ST G ks ad V (mA ks ad sz) s.heap H locs → lv_has ls 3 [(0, .ref (ad 1 w 0)), (1, .int x1), (2, .int x2)] → W p l e ({ frames := 6, cells := 0, slots := 0, locals := 137 } : Room) s m args below meth c H locs 0 0 (MQ below (mQv post G ks ad sz) args s 0 0 (mA ks ad sz)) (F0 m 2 ls []) := by
    intro x1 x2 V H locs ls h hS hl
    obtain ⟨J, ⟨n, hJ⟩, hb⟩ := h
    induction n using Nat.strongRecOn generalizing x2 V H locs ls with
    | _ n ih =>
      have h := hb n x2 V hJ
      obtain ⟨B2, eB⟩ : ∃ z : Int32 → VS → Prop, z = (fun x2 V => ∃ n', n' < n ∧ J n' x2 V) := ⟨_, rfl⟩
      rw [← eB] at h
      have kB2 : ∀ (x2 : Int32) (V : VS) (H : Heap) (locs : List Loc) (ls : Array Slot), B2 x2 V → ST G ks ad V (mA ks ad sz) s.heap H locs → lv_has ls 3 [(0, .ref (ad 1 w 0)), (1, .int x1), (2, .int x2)] → W p l e ({ frames := 6, cells := 0, slots := 0, locals := 137 } : Room) s m args below meth c H locs 0 0 (MQ below (mQv post G ks ad sz) args s 0 0 (mA ks ad sz)) (F0 m 2 ls []) := by
        intro x2 V H locs ls h hS hl
        rw [eB] at h
        obtain ⟨n', hn, hJ'⟩ := h
        exact ih n' hn _ _ _ _ _ hS hl hJ'
      clear ih hJ hb eB
      unfold wk_X7_passDays_2 at h
      refine lv_iload_n hC.1 hC.2.1 dX7_passDays_2 rfl (lv_at hl 2 rfl) ?_
      refine lv_iload_n hC.1 hC.2.1 dX7_passDays_3 rfl (lv_at hl 1 rfl) ?_
      refine lv_icmp_ge (tgt := 31) hC.1 hC.2.1 dX7_passDays_4 (by decide) (fun c6 => ?_) (fun c6 => ?_)
      · have h := h.1 c6
        exact g_vret hC hr hlk hS h dX7_passDays_31
      · have h := h.2 c6
        refine lv_aload_n hC.1 hC.2.1 dX7_passDays_7 rfl (lv_at hl 0 rfl) ?_
        obtain ⟨hk2, h⟩ := h
        refine g_callv0 hS (g_runV (n := 0) (rest := []) (As := []) (C := RX7) (T := TX7) (N := 9) hC hS hk2 rfl rfl (c_X7_weather l G ks ad w V _ h _) (gI wq_832 wq_834 wq_14 wq_40 wq_835) rfl ⟨⟨by decide +kernel, by decide +kernel, by decide +kernel⟩, rfl, rfl, Nat.le_of_ble_eq_true rfl, Nat.le_of_ble_eq_true rfl⟩ rfl hl rfl (Nat.le_of_ble_eq_true rfl) dX7_passDays_8 ⟨Nat.le_of_ble_eq_true rfl, Nat.le_of_ble_eq_true rfl⟩) (fun V1 H locs h hS => ?_)
        refine lv_aload_n hC.1 hC.2.1 dX7_passDays_11 rfl (lv_at hl 0 rfl) ?_
        refine g_callv0 hS (g_runV (n := 0) (rest := []) (As := []) (C := RX7) (T := TX7) (N := 9) hC hS hk2 rfl rfl (c_X7_goRound l G ks ad w V1 _ h _) (gI wq_845 wq_847 wq_15 wq_40 wq_848) rfl ⟨⟨by decide +kernel, by decide +kernel, by decide +kernel⟩, rfl, rfl, Nat.le_of_ble_eq_true rfl, Nat.le_of_ble_eq_true rfl⟩ rfl hl rfl (Nat.le_of_ble_eq_true rfl) dX7_passDays_12 ⟨Nat.le_of_ble_eq_true rfl, Nat.le_of_ble_eq_true rfl⟩) (fun V3 H locs h hS => ?_)
        refine lv_aload_n hC.1 hC.2.1 dX7_passDays_15 rfl (lv_at hl 0 rfl) ?_
        refine lv_dup hC.1 hC.2.1 dX7_passDays_16 rfl ?_
        refine gf_1_7 hC hS hk2 wq_146 dX7_passDays_17 ?_
        refine lv_iconst (v := 1) hC.1 hC.2.1 dX7_passDays_20 (by decide) ?_
        refine lv_iadd hC.1 hC.2.1 dX7_passDays_21 ?_
        refine pf_1_7 hC hS hk2 wq_146 dX7_passDays_22 (fun H locs hS => ?_)
        obtain ⟨V4, eV4⟩ : ∃ z : VS, z = vup V3 1 w 0 7 0 ((V3 1 w 0 7 0) + 1) := ⟨_, rfl⟩
        rw [← eV4] at hS
        have h := h V4 eV4
        obtain ⟨y5, ey5⟩ : ∃ z : Int32, z = x2 + 1 := ⟨_, rfl⟩
        have h := h y5 ey5
        refine lv_iinc (v := y5) (lv' := [(2, .int y5), (0, .ref (ad 1 w 0)), (1, .int x1)]) hC.1 hC.2.1 dX7_passDays_25 hl (k := 2) rfl (by rw [ey5]; rfl) (by decide) rfl (fun ls hl => ?_)
        refine lv_goto (tgt := 2) hC.1 hC.2.1 dX7_passDays_28 (by decide) ?_
        exact kB2 _ _ _ _ _ h hS (lv_sub hl [1, 2, 0] rfl)
  refine lv_iconst (v := 0) hC.1 hC.2.1 dX7_passDays_0 (by decide) ?_
  refine lv_istore_n (lv' := [(2, .int 0), (0, .ref (ad 1 w 0)), (1, .int a1)]) hC.1 hC.2.1 dX7_passDays_1 rfl hl (by decide) rfl (fun ls hl => ?_)
  exact kT2 _ _ _ _ _ _ h hS (lv_sub hl [1, 2, 0] rfl)
