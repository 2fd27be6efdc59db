def wp_X2_isUsable (ks : List KY) (w i : Nat) (V : VS) (post : Int32 → VS → Prop) : Prop := ((5, w, i) ∈ ks ∧ ((12 : Int32) < (V 5 w i 4 0) → (post 0 V)) ∧ (¬ ((12 : Int32) < (V 5 w i 4 0)) → (post 1 V)))
set_option maxHeartbeats 4000000 in
set_option maxRecDepth 100000 in
theorem c_X2_isUsable (l : Launch) (G : GG) (ks : List KY) (ad : AD) (w : Nat) (i : Nat) (V : VS) (post : Int32 → VS → Prop) (h : wp_X2_isUsable ks w i V post) (sz : Nat) : Met l yX2_isUsable (ws_ yX2_isUsable cX2_isUsable 1 (some .boolean)) ({ frames := 0, cells := 0, slots := 0, locals := 0 }) (mPc [.ref (ad 5 w i)] G ks ad V sz) (mQi post G ks ad sz) 0 0 (mA ks ad sz) := by
  refine g_met (own := RX2) (by decide) rfl (Nat.le_of_ble_eq_true rfl) ?_
  intro p e s m args below meth c ls hC hsz hr hlk hin hS ha hl
  have hl : lv_has ls 1 [(0, .ref (ad 5 w i))] := hl
  unfold wp_X2_isUsable at h
  refine lv_aload_n hC.1 hC.2.1 dX2_isUsable_0 rfl (lv_at hl 0 rfl) ?_
  obtain ⟨hk1, h⟩ := h
  refine gf_5_4 hC hS hk1 wq_554 dX2_isUsable_1 ?_
  refine lv_bipush (v := 12) hC.1 hC.2.1 dX2_isUsable_4 (by decide) ?_
  refine lv_icmp_gt (tgt := 13) hC.1 hC.2.1 dX2_isUsable_6 (by decide) (fun c2 => ?_) (fun c2 => ?_)
  · have h := h.1 c2
    refine lv_iconst (v := 0) hC.1 hC.2.1 dX2_isUsable_13 (by decide) ?_
    exact g_zret hC hr hlk hS (by decide) h dX2_isUsable_14
  · have h := h.2 c2
    refine lv_iconst (v := 1) hC.1 hC.2.1 dX2_isUsable_9 (by decide) ?_
    refine lv_goto (tgt := 14) hC.1 hC.2.1 dX2_isUsable_10 (by decide) ?_
    exact g_zret hC hr hlk hS (by decide) h dX2_isUsable_14
def wp_X2_minutes (ks : List KY) (w i : Nat) (V : VS) (post : Int32 → VS → Prop) : Prop := ((5, w, i) ∈ ks ∧ post ((V 5 w i 2 0) + ((V 5 w i 4 0) / 2)) V)
set_option maxHeartbeats 4000000 in
set_option maxRecDepth 100000 in
theorem c_X2_minutes (l : Launch) (G : GG) (ks : List KY) (ad : AD) (w : Nat) (i : Nat) (V : VS) (post : Int32 → VS → Prop) (h : wp_X2_minutes ks w i V post) (sz : Nat) : Met l yX2_minutes (ws_ yX2_minutes cX2_minutes 1 (some .int)) ({ frames := 0, cells := 0, slots := 0, locals := 0 }) (mPc [.ref (ad 5 w i)] G ks ad V sz) (mQi post G ks ad sz) 0 0 (mA ks ad sz) := by
  refine g_met (own := RX2) (by decide) rfl (Nat.le_of_ble_eq_true rfl) ?_
  intro p e s m args below meth c ls hC hsz hr hlk hin hS ha hl
  have hl : lv_has ls 1 [(0, .ref (ad 5 w i))] := hl
  unfold wp_X2_minutes at h
  refine lv_aload_n hC.1 hC.2.1 dX2_minutes_0 rfl (lv_at hl 0 rfl) ?_
  obtain ⟨hk1, h⟩ := h
  refine gf_5_2 hC hS hk1 wq_550 dX2_minutes_1 ?_
  refine lv_aload_n hC.1 hC.2.1 dX2_minutes_4 rfl (lv_at hl 0 rfl) ?_
  refine gf_5_4 hC hS hk1 wq_554 dX2_minutes_5 ?_
  refine lv_iconst (v := 2) hC.1 hC.2.1 dX2_minutes_8 (by decide) ?_
  refine lv_idiv hC.1 hC.2.1 dX2_minutes_9 (by decide) ?_
  refine lv_iadd hC.1 hC.2.1 dX2_minutes_10 ?_
  exact g_iret hC hr hlk hS h dX2_minutes_11
def wp_X2_weather (ks : List KY) (w i : Nat) (a1 : Int32) (V : VS) (post : VS → Prop) : Prop := ((a1 ≤ 0 → ((5, w, i) ∈ ks ∧ ∀ V2 : VS, V2 = vup V 5 w i 4 0 (if (0 : Int32) < ((V 5 w i 4 0) - 2) then ((V 5 w i 4 0) - 2) else (0 : Int32)) → post V2)) ∧ (¬ (a1 ≤ 0) → ((5, w, i) ∈ ks ∧ ∀ V4 : VS, V4 = vup V 5 w i 4 0 (if ((V 5 w i 4 0) + ((a1 * (V 5 w i 3 0)) / 4)) < (20 : Int32) then ((V 5 w i 4 0) + ((a1 * (V 5 w i 3 0)) / 4)) else (20 : Int32)) → post V4)))
set_option maxHeartbeats 4000000 in
set_option maxRecDepth 100000 in
theorem c_X2_weather (l : Launch) (G : GG) (ks : List KY) (ad : AD) (w : Nat) (i : Nat) (a1 : Int32) (V : VS) (post : VS → Prop) (h : wp_X2_weather ks w i a1 V post) (sz : Nat) : Met l yX2_weather (ws_ yX2_weather cX2_weather 2 none) ({ frames := 1, cells := 0, slots := 0, locals := 14 }) (mPc [.ref (ad 5 w i), .int a1] G ks ad V sz) (mQv post G ks ad sz) 0 0 (mA ks ad sz) := by
  refine g_met (own := RX2) (by decide) rfl (Nat.le_of_ble_eq_true rfl) ?_
  intro p e s m args below meth c ls hC hsz hr hlk hin hS ha hl
  have hl : lv_has ls 2 [(0, .ref (ad 5 w i)), (1, .int a1)] := hl
  unfold wp_X2_weather at h
  refine lv_aload_n hC.1 hC.2.1 dX2_weather_0 rfl (lv_at hl 0 rfl) ?_
  refine lv_iload_n hC.1 hC.2.1 dX2_weather_1 rfl (lv_at hl 1 rfl) ?_
  refine lv_if_le (tgt := 26) hC.1 hC.2.1 dX2_weather_2 (by decide) (fun c5 => ?_) (fun c5 => ?_)
  · have h := h.1 c5
    refine lv_iconst (v := 0) hC.1 hC.2.1 dX2_weather_26 (by decide) ?_
    refine lv_aload_n hC.1 hC.2.1 dX2_weather_27 rfl (lv_at hl 0 rfl) ?_
    obtain ⟨hk1, h⟩ := h
    refine gf_5_4 hC hS hk1 wq_554 dX2_weather_28 ?_
    refine lv_iconst (v := 2) hC.1 hC.2.1 dX2_weather_31 (by decide) ?_
    refine lv_isub hC.1 hC.2.1 dX2_weather_32 ?_
    refine va_mmax hC.1 hC.2.1 (hC.2.2.1.trans hl.1.symm) hC.2.2.2.1 (hC.2.2.2.2.1 _ wq_844) (hC.2.2.2.2.1 _ wq_442) (hC.2.2.2.2.1 _ wq_54) (hC.2.2.2.2.1 _ wq_443) (by decide) (Nat.le_of_ble_eq_true rfl) (Nat.le_of_ble_eq_true rfl) (Nat.le_of_ble_eq_true rfl) dX2_weather_33 ?_
    refine pf_5_4 hC hS hk1 wq_554 dX2_weather_36 (fun H locs hS => ?_)
    obtain ⟨V2, eV2⟩ : ∃ z : VS, z = vup V 5 w i 4 0 (if (0 : Int32) < ((V 5 w i 4 0) - 2) then ((V 5 w i 4 0) - 2) else (0 : Int32)) := ⟨_, rfl⟩
    rw [← eV2] at hS
    have h := h V2 eV2
    exact g_vret hC hr hlk hS h dX2_weather_39
  · have h := h.2 c5
    refine lv_bipush (v := 20) hC.1 hC.2.1 dX2_weather_5 (by decide) ?_
    refine lv_aload_n hC.1 hC.2.1 dX2_weather_7 rfl (lv_at hl 0 rfl) ?_
    obtain ⟨hk3, h⟩ := h
    refine gf_5_4 hC hS hk3 wq_554 dX2_weather_8 ?_
    refine lv_iload_n hC.1 hC.2.1 dX2_weather_11 rfl (lv_at hl 1 rfl) ?_
    refine lv_aload_n hC.1 hC.2.1 dX2_weather_12 rfl (lv_at hl 0 rfl) ?_
    refine gf_5_3 hC hS hk3 wq_552 dX2_weather_13 ?_
    refine lv_imul hC.1 hC.2.1 dX2_weather_16 ?_
    refine lv_iconst (v := 4) hC.1 hC.2.1 dX2_weather_17 (by decide) ?_
    refine lv_idiv hC.1 hC.2.1 dX2_weather_18 (by decide) ?_
    refine lv_iadd hC.1 hC.2.1 dX2_weather_19 ?_
    refine va_mmin hC.1 hC.2.1 (hC.2.2.1.trans hl.1.symm) hC.2.2.2.1 (hC.2.2.2.2.1 _ wq_843) (hC.2.2.2.2.1 _ wq_477) (hC.2.2.2.2.1 _ wq_54) (hC.2.2.2.2.1 _ wq_478) (by decide) (Nat.le_of_ble_eq_true rfl) (Nat.le_of_ble_eq_true rfl) (Nat.le_of_ble_eq_true rfl) dX2_weather_20 ?_
    refine lv_goto (tgt := 36) hC.1 hC.2.1 dX2_weather_23 (by decide) ?_
    refine pf_5_4 hC hS hk3 wq_554 dX2_weather_36 (fun H locs hS => ?_)
    obtain ⟨V4, eV4⟩ : ∃ z : VS, z = vup V 5 w i 4 0 (if ((V 5 w i 4 0) + ((a1 * (V 5 w i 3 0)) / 4)) < (20 : Int32) then ((V 5 w i 4 0) + ((a1 * (V 5 w i 3 0)) / 4)) else (20 : Int32)) := ⟨_, rfl⟩
    rw [← eV4] at hS
    have h := h V4 eV4
    exact g_vret hC hr hlk hS h dX2_weather_39
def wp_X2_copyFrom (ks : List KY) (w i w1 i1 : Nat) (V : VS) (post : VS → Prop) : Prop := ((5, w1, i1) ∈ ks ∧ (5, w, i) ∈ ks ∧ ∀ V3 : VS, V3 = vup V 5 w i 4 0 (V 5 w1 i1 4 0) → post V3)
set_option maxHeartbeats 4000000 in
set_option maxRecDepth 100000 in
theorem c_X2_copyFrom (l : Launch) (G : GG) (ks : List KY) (ad : AD) (w : Nat) (i : Nat) (w1 : Nat) (i1 : Nat) (V : VS) (post : VS → Prop) (h : wp_X2_copyFrom ks w i w1 i1 V post) (sz : Nat) : Met l yX2_copyFrom (ws_ yX2_copyFrom cX2_copyFrom 2 none) ({ frames := 0, cells := 0, slots := 0, locals := 0 }) (mPc [.ref (ad 5 w i), .ref (ad 5 w1 i1)] G ks ad V sz) (mQv post G ks ad sz) 0 0 (mA ks ad sz) := by
  refine g_met (own := RX2) (by decide) rfl (Nat.le_of_ble_eq_true rfl) ?_
  intro p e s m args below meth c ls hC hsz hr hlk hin hS ha hl
  have hl : lv_has ls 2 [(0, .ref (ad 5 w i)), (1, .ref (ad 5 w1 i1))] := hl
  unfold wp_X2_copyFrom at h
  refine lv_aload_n hC.1 hC.2.1 dX2_copyFrom_0 rfl (lv_at hl 0 rfl) ?_
  refine lv_aload_n hC.1 hC.2.1 dX2_copyFrom_1 rfl (lv_at hl 1 rfl) ?_
  obtain ⟨hk1, h⟩ := h
  refine gf_5_4 hC hS hk1 wq_554 dX2_copyFrom_2 ?_
  obtain ⟨hk2, h⟩ := h
  refine pf_5_4 hC hS hk2 wq_554 dX2_copyFrom_5 (fun H locs hS => ?_)
  obtain ⟨V3, eV3⟩ : ∃ z : VS, z = vup V 5 w i 4 0 (V 5 w1 i1 4 0) := ⟨_, rfl⟩
  rw [← eV3] at hS
  have h := h V3 eV3
  exact g_vret hC hr hlk hS h dX2_copyFrom_8
def wp_X1_copyFrom (ks : List KY) (w i w1 i1 : Nat) (V : VS) (post : VS → Prop) : Prop := ((4, w1, i1) ∈ ks ∧ (4, w, i) ∈ ks ∧ ∀ V3 : VS, V3 = vup V 4 w i 0 0 (V 4 w1 i1 0 0) → ∀ V4 : VS, V4 = vup V3 4 w i 1 0 (V3 4 w1 i1 1 0) → post V4)
set_option maxHeartbeats 4000000 in
set_option maxRecDepth 100000 in
theorem c_X1_copyFrom (l : Launch) (G : GG) (ks : List KY) (ad : AD) (w : Nat) (i : Nat) (w1 : Nat) (i1 : Nat) (V : VS) (post : VS → Prop) (h : wp_X1_copyFrom ks w i w1 i1 V post) (sz : Nat) : Met l yX1_copyFrom (ws_ yX1_copyFrom cX1_copyFrom 2 none) ({ frames := 0, cells := 0, slots := 0, locals := 0 }) (mPc [.ref (ad 4 w i), .ref (ad 4 w1 i1)] G ks ad V sz) (mQv post G ks ad sz) 0 0 (mA ks ad sz) := by
  refine g_met (own := RX1) (by decide) rfl (Nat.le_of_ble_eq_true rfl) ?_
  intro p e s m args below meth c ls hC hsz hr hlk hin hS ha hl
  have hl : lv_has ls 2 [(0, .ref (ad 4 w i)), (1, .ref (ad 4 w1 i1))] := hl
  unfold wp_X1_copyFrom at h
  refine lv_aload_n hC.1 hC.2.1 dX1_copyFrom_0 rfl (lv_at hl 0 rfl) ?_
  refine lv_aload_n hC.1 hC.2.1 dX1_copyFrom_1 rfl (lv_at hl 1 rfl) ?_
  obtain ⟨hk1, h⟩ := h
  refine gf_4_0 hC hS hk1 wq_413 dX1_copyFrom_2 ?_
  obtain ⟨hk2, h⟩ := h
  refine pf_4_0 hC hS hk2 wq_413 dX1_copyFrom_5 (fun H locs hS => ?_)
  obtain ⟨V3, eV3⟩ : ∃ z : VS, z = vup V 4 w i 0 0 (V 4 w1 i1 0 0) := ⟨_, rfl⟩
  rw [← eV3] at hS
  have h := h V3 eV3
  refine lv_aload_n hC.1 hC.2.1 dX1_copyFrom_8 rfl (lv_at hl 0 rfl) ?_
  refine lv_aload_n hC.1 hC.2.1 dX1_copyFrom_9 rfl (lv_at hl 1 rfl) ?_
  refine gf_4_1 hC hS hk1 wq_415 dX1_copyFrom_10 ?_
  refine pf_4_1 hC hS hk2 wq_415 dX1_copyFrom_13 (fun H locs hS => ?_)
  obtain ⟨V4, eV4⟩ : ∃ z : VS, z = vup V3 4 w i 1 0 (V3 4 w1 i1 1 0) := ⟨_, rfl⟩
  rw [← eV4] at hS
  have h := h V4 eV4
  exact g_vret hC hr hlk hS h dX1_copyFrom_16
def wp_X4_takesMore (ks : List KY) (w i : Nat) (V : VS) (post : Int32 → VS → Prop) : Prop := ((7, w, i) ∈ ks ∧ ((3 : Int32) ≤ (V 7 w i 4 0) → (post 0 V)) ∧ (¬ ((3 : Int32) ≤ (V 7 w i 4 0)) → (post 1 V)))
set_option maxHeartbeats 4000000 in
set_option maxRecDepth 100000 in
theorem c_X4_takesMore (l : Launch) (G : GG) (ks : List KY) (ad : AD) (w : Nat) (i : Nat) (V : VS) (post : Int32 → VS → Prop) (h : wp_X4_takesMore ks w i V post) (sz : Nat) : Met l yX4_takesMore (ws_ yX4_takesMore cX4_takesMore 1 (some .boolean)) ({ frames := 0, cells := 0, slots := 0, locals := 0 }) (mPc [.ref (ad 7 w i)] G ks ad V sz) (mQi post G ks ad sz) 0 0 (mA ks ad sz) := by
  refine g_met (own := RX4) (by decide) rfl (Nat.le_of_ble_eq_true rfl) ?_
  intro p e s m args below meth c ls hC hsz hr hlk hin hS ha hl
  have hl : lv_has ls 1 [(0, .ref (ad 7 w i))] := hl
  unfold wp_X4_takesMore at h
  refine lv_aload_n hC.1 hC.2.1 dX4_takesMore_0 rfl (lv_at hl 0 rfl) ?_
  obtain ⟨hk1, h⟩ := h
  refine gf_7_4 hC hS hk1 wq_728 dX4_takesMore_1 ?_
  refine lv_iconst (v := 3) hC.1 hC.2.1 dX4_takesMore_4 (by decide) ?_
  refine lv_icmp_ge (tgt := 12) hC.1 hC.2.1 dX4_takesMore_5 (by decide) (fun c2 => ?_) (fun c2 => ?_)
  · have h := h.1 c2
    refine lv_iconst (v := 0) hC.1 hC.2.1 dX4_takesMore_12 (by decide) ?_
    exact g_zret hC hr hlk hS (by decide) h dX4_takesMore_13
  · have h := h.2 c2
    refine lv_iconst (v := 1) hC.1 hC.2.1 dX4_takesMore_8 (by decide) ?_
    refine lv_goto (tgt := 13) hC.1 hC.2.1 dX4_takesMore_9 (by decide) ?_
    exact g_zret hC hr hlk hS (by decide) h dX4_takesMore_13
def wp_X4_hasRead (ks : List KY) (w i : Nat) (a1 : Int32) (V : VS) (post : Int32 → VS → Prop) : Prop := ((7, w, i) ∈ ks ∧ ((((V 7 w i 5 0) >>> (a1 &&& 31)) &&& 1) = 1 → (post 1 V)) ∧ (¬ ((((V 7 w i 5 0) >>> (a1 &&& 31)) &&& 1) = 1) → (post 0 V)))
set_option maxHeartbeats 4000000 in
set_option maxRecDepth 100000 in
theorem c_X4_hasRead (l : Launch) (G : GG) (ks : List KY) (ad : AD) (w : Nat) (i : Nat) (a1 : Int32) (V : VS) (post : Int32 → VS → Prop) (h : wp_X4_hasRead ks w i a1 V post) (sz : Nat) : Met l yX4_hasRead (ws_ yX4_hasRead cX4_hasRead 2 (some .boolean)) ({ frames := 0, cells := 0, slots := 0, locals := 0 }) (mPc [.ref (ad 7 w i), .int a1] G ks ad V sz) (mQi post G ks ad sz) 0 0 (mA ks ad sz) := by
  refine g_met (own := RX4) (by decide) rfl (Nat.le_of_ble_eq_true rfl) ?_
  intro p e s m args below meth c ls hC hsz hr hlk hin hS ha hl
  have hl : lv_has ls 2 [(0, .ref (ad 7 w i)), (1, .int a1)] := hl
  unfold wp_X4_hasRead at h
  refine lv_aload_n hC.1 hC.2.1 dX4_hasRead_0 rfl (lv_at hl 0 rfl) ?_
  obtain ⟨hk1, h⟩ := h
  refine gf_7_5 hC hS hk1 wq_731 dX4_hasRead_1 ?_
  refine lv_iload_n hC.1 hC.2.1 dX4_hasRead_4 rfl (lv_at hl 1 rfl) ?_
  refine lv_ishr hC.1 hC.2.1 dX4_hasRead_5 ?_
  refine lv_iconst (v := 1) hC.1 hC.2.1 dX4_hasRead_6 (by decide) ?_
  refine lv_iand hC.1 hC.2.1 dX4_hasRead_7 ?_
  refine lv_iconst (v := 1) hC.1 hC.2.1 dX4_hasRead_8 (by decide) ?_
  refine lv_icmp_ne (tgt := 16) hC.1 hC.2.1 dX4_hasRead_9 (by decide) (fun c2 => ?_) (fun c2 => ?_)
  · have h := h.2 c2
    refine lv_iconst (v := 0) hC.1 hC.2.1 dX4_hasRead_16 (by decide) ?_
    exact g_zret hC hr hlk hS (by decide) h dX4_hasRead_17
  · have h := h.1 c2
    refine lv_iconst (v := 1) hC.1 hC.2.1 dX4_hasRead_12 (by decide) ?_
    refine lv_goto (tgt := 17) hC.1 hC.2.1 dX4_hasRead_13 (by decide) ?_
    exact g_zret hC hr hlk hS (by decide) h dX4_hasRead_17
def wp_X4_copyFrom (ks : List KY) (w i w1 i1 : Nat) (V : VS) (post : VS → Prop) : Prop := ((7, w1, i1) ∈ ks ∧ (7, w, i) ∈ ks ∧ ∀ V3 : VS, V3 = vup V 7 w i 4 0 (V 7 w1 i1 4 0) → ∀ V4 : VS, V4 = vup V3 7 w i 5 0 (V3 7 w1 i1 5 0) → ∀ V5 : VS, V5 = vup V4 7 w i 6 0 (V4 7 w1 i1 6 0) → ∀ V6 : VS, V6 = vup V5 7 w i 7 0 (V5 7 w1 i1 7 0) → post V6)
set_option maxHeartbeats 4000000 in
set_option maxRecDepth 100000 in
theorem c_X4_copyFrom (l : Launch) (G : GG) (ks : List KY) (ad : AD) (w : Nat) (i : Nat) (w1 : Nat) (i1 : Nat) (V : VS) (post : VS → Prop) (h : wp_X4_copyFrom ks w i w1 i1 V post) (sz : Nat) : Met l yX4_copyFrom (ws_ yX4_copyFrom cX4_copyFrom 2 none) ({ frames := 0, cells := 0, slots := 0, locals := 0 }) (mPc [.ref (ad 7 w i), .ref (ad 7 w1 i1)] G ks ad V sz) (mQv post G ks ad sz) 0 0 (mA ks ad sz) := by
  refine g_met (own := RX4) (by decide) rfl (Nat.le_of_ble_eq_true rfl) ?_
  intro p e s m args below meth c ls hC hsz hr hlk hin hS ha hl
  have hl : lv_has ls 2 [(0, .ref (ad 7 w i)), (1, .ref (ad 7 w1 i1))] := hl
  unfold wp_X4_copyFrom at h
  refine lv_aload_n hC.1 hC.2.1 dX4_copyFrom_0 rfl (lv_at hl 0 rfl) ?_
  refine lv_aload_n hC.1 hC.2.1 dX4_copyFrom_1 rfl (lv_at hl 1 rfl) ?_
  obtain ⟨hk1, h⟩ := h
  refine gf_7_4 hC hS hk1 wq_728 dX4_copyFrom_2 ?_
  obtain ⟨hk2, h⟩ := h
  refine pf_7_4 hC hS hk2 wq_728 dX4_copyFrom_5 (fun H locs hS => ?_)
  obtain ⟨V3, eV3⟩ : ∃ z : VS, z = vup V 7 w i 4 0 (V 7 w1 i1 4 0) := ⟨_, rfl⟩
  rw [← eV3] at hS
  have h := h V3 eV3
  refine lv_aload_n hC.1 hC.2.1 dX4_copyFrom_8 rfl (lv_at hl 0 rfl) ?_
  refine lv_aload_n hC.1 hC.2.1 dX4_copyFrom_9 rfl (lv_at hl 1 rfl) ?_
  refine gf_7_5 hC hS hk1 wq_731 dX4_copyFrom_10 ?_
  refine pf_7_5 hC hS hk2 wq_731 dX4_copyFrom_13 (fun H locs hS => ?_)
  obtain ⟨V4, eV4⟩ : ∃ z : VS, z = vup V3 7 w i 5 0 (V3 7 w1 i1 5 0) := ⟨_, rfl⟩
  rw [← eV4] at hS
  have h := h V4 eV4
  refine lv_aload_n hC.1 hC.2.1 dX4_copyFrom_16 rfl (lv_at hl 0 rfl) ?_
  refine lv_aload_n hC.1 hC.2.1 dX4_copyFrom_17 rfl (lv_at hl 1 rfl) ?_
  refine gf_7_6 hC hS hk1 wq_734 dX4_copyFrom_18 ?_
  refine pf_7_6 hC hS hk2 wq_734 dX4_copyFrom_21 (fun H locs hS => ?_)
  obtain ⟨V5, eV5⟩ : ∃ z : VS, z = vup V4 7 w i 6 0 (V4 7 w1 i1 6 0) := ⟨_, rfl⟩
  rw [← eV5] at hS
  have h := h V5 eV5
  refine lv_aload_n hC.1 hC.2.1 dX4_copyFrom_24 rfl (lv_at hl 0 rfl) ?_
  refine lv_aload_n hC.1 hC.2.1 dX4_copyFrom_25 rfl (lv_at hl 1 rfl) ?_
  refine gf_7_7 hC hS hk1 wq_739 dX4_copyFrom_26 ?_
  refine pf_7_7 hC hS hk2 wq_739 dX4_copyFrom_29 (fun H locs hS => ?_)
  obtain ⟨V6, eV6⟩ : ∃ z : VS, z = vup V5 7 w i 7 0 (V5 7 w1 i1 7 0) := ⟨_, rfl⟩
  rw [← eV6] at hS
  have h := h V6 eV6
  exact g_vret hC hr hlk hS h dX4_copyFrom_32
def wp_X5_size (ks : List KY) (w : Nat) (V : VS) (post : Int32 → VS → Prop) : Prop := ((12, w, 0) ∈ ks ∧ post (V 12 w 0 1 0) V)
set_option maxHeartbeats 4000000 in
set_option maxRecDepth 100000 in
theorem c_X5_size (l : Launch) (G : GG) (ks : List KY) (ad : AD) (w : Nat) (V : VS) (post : Int32 → VS → Prop) (h : wp_X5_size ks w V post) (sz : Nat) : Met l yX5_size (ws_ yX5_size cX5_size 1 (some .int)) ({ frames := 0, cells := 0, slots := 0, locals := 0 }) (mPc [.ref (ad 12 w 0)] G ks ad V sz) (mQi post G ks ad sz) 0 0 (mA ks ad sz) := by
  refine g_met (own := RX5) (by decide) rfl (Nat.le_of_ble_eq_true rfl) ?_
  intro p e s m args below meth c ls hC hsz hr hlk hin hS ha hl
  have hl : lv_has ls 1 [(0, .ref (ad 12 w 0))] := hl
  unfold wp_X5_size at h
  refine lv_aload_n hC.1 hC.2.1 dX5_size_0 rfl (lv_at hl 0 rfl) ?_
  obtain ⟨hk1, h⟩ := h
  refine gf_12_1 hC hS hk1 wq_124 dX5_size_1 ?_
  exact g_iret hC hr hlk hS h dX5_size_4
def wp_X5_haltAt (ks : List KY) (w : Nat) (a1 : Int32) (V : VS) (post : Int32 → VS → Prop) : Prop := ((a1 < 0 → (post (-1) V)) ∧ (¬ (a1 < 0) → ((12, w, 0) ∈ ks ∧ (13, w, 0) ∈ ks ∧ ((8 : Int32) ≤ a1 → (post (-1) V)) ∧ (¬ ((8 : Int32) ≤ a1) → (vp_in a1 8 ∧ post (V 13 w 0 0 a1.toNatClampNeg) V)))))
set_option maxHeartbeats 4000000 in
set_option maxRecDepth 100000 in
theorem c_X5_haltAt (l : Launch) (G : GG) (ks : List KY) (ad : AD) (w : Nat) (a1 : Int32) (V : VS) (post : Int32 → VS → Prop) (h : wp_X5_haltAt ks w a1 V post) (sz : Nat) : Met l yX5_haltAt (ws_ yX5_haltAt cX5_haltAt 2 (some .int)) ({ frames := 0, cells := 0, slots := 0, locals := 0 }) (mPc [.ref (ad 12 w 0), .int a1] G ks ad V sz) (mQi post G ks ad sz) 0 0 (mA ks ad sz) := by
  refine g_met (own := RX5) (by decide) rfl (Nat.le_of_ble_eq_true rfl) ?_
  intro p e s m args below meth c ls hC hsz hr hlk hin hS ha hl
  have hl : lv_has ls 2 [(0, .ref (ad 12 w 0)), (1, .int a1)] := hl
  unfold wp_X5_haltAt at h
  refine lv_iload_n hC.1 hC.2.1 dX5_haltAt_0 rfl (lv_at hl 1 rfl) ?_
  refine lv_if_lt (tgt := 22) hC.1 hC.2.1 dX5_haltAt_1 (by decide) (fun c5 => ?_) (fun c5 => ?_)
  · have h := h.1 c5
    refine lv_iconst (v := (-1)) hC.1 hC.2.1 dX5_haltAt_22 (by decide) ?_
    exact g_iret hC hr hlk hS h dX5_haltAt_23
  · have h := h.2 c5
    refine lv_iload_n hC.1 hC.2.1 dX5_haltAt_4 rfl (lv_at hl 1 rfl) ?_
    refine lv_aload_n hC.1 hC.2.1 dX5_haltAt_5 rfl (lv_at hl 0 rfl) ?_
    obtain ⟨hk1, h⟩ := h
    refine gf_12_0 hC hS hk1 wq_123 dX5_haltAt_6 ?_
    obtain ⟨hk2, h⟩ := h
    refine g_alen hC hS hk2 (by decide) dX5_haltAt_9 ?_
    refine W.eq (g2 := F0 m 10 ls [.int 8, .int a1]) rfl ?_
    refine lv_icmp_ge (tgt := 22) hC.1 hC.2.1 dX5_haltAt_10 (by decide) (fun c4 => ?_) (fun c4 => ?_)
    · have h := h.1 c4
      refine lv_iconst (v := (-1)) hC.1 hC.2.1 dX5_haltAt_22 (by decide) ?_
      exact g_iret hC hr hlk hS h dX5_haltAt_23
    · have h := h.2 c4
      refine lv_aload_n hC.1 hC.2.1 dX5_haltAt_13 rfl (lv_at hl 0 rfl) ?_
      refine gf_12_0 hC hS hk1 wq_123 dX5_haltAt_14 ?_
      refine lv_iload_n hC.1 hC.2.1 dX5_haltAt_17 rfl (lv_at hl 1 rfl) ?_
      obtain ⟨hx3, h⟩ := h
      refine g_iald hC hS hk2 (by decide) hx3 dX5_haltAt_18 ?_
      refine lv_goto (tgt := 23) hC.1 hC.2.1 dX5_haltAt_19 (by decide) ?_
      exact g_iret hC hr hlk hS h dX5_haltAt_23
def wp_X5_append (ks : List KY) (w : Nat) (a1 : Int32) (V : VS) (post : VS → Prop) : Prop := ((12, w, 0) ∈ ks ∧ ((V 12 w 0 1 0) < 0 → (post V)) ∧ (¬ ((V 12 w 0 1 0) < 0) → ((13, w, 0) ∈ ks ∧ ((8 : Int32) ≤ (V 12 w 0 1 0) → (post V)) ∧ (¬ ((8 : Int32) ≤ (V 12 w 0 1 0)) → (vp_in (V 12 w 0 1 0) 8 ∧ ∀ V4 : VS, V4 = vup V 13 w 0 0 (V 12 w 0 1 0).toNatClampNeg a1 → ∀ V5 : VS, V5 = vup V4 12 w 0 1 0 ((V4 12 w 0 1 0) + 1) → post V5)))))
set_option maxHeartbeats 4000000 in
set_option maxRecDepth 100000 in
theorem c_X5_append (l : Launch) (G : GG) (ks : List KY) (ad : AD) (w : Nat) (a1 : Int32) (V : VS) (post : VS → Prop) (h : wp_X5_append ks w a1 V post) (sz : Nat) : Met l yX5_append (ws_ yX5_append cX5_append 2 none) ({ frames := 0, cells := 0, slots := 0, locals := 0 }) (mPc [.ref (ad 12 w 0), .int a1] G ks ad V sz) (mQv post G ks ad sz) 0 0 (mA ks ad sz) := by
  refine g_met (own := RX5) (by decide) rfl (Nat.le_of_ble_eq_true rfl) ?_
  intro p e s m args below meth c ls hC hsz hr hlk hin hS ha hl
  have hl : lv_has ls 2 [(0, .ref (ad 12 w 0)), (1, .int a1)] := hl
  unfold wp_X5_append at h
  refine lv_aload_n hC.1 hC.2.1 dX5_append_0 rfl (lv_at hl 0 rfl) ?_
  obtain ⟨hk1, h⟩ := h
  refine gf_12_1 hC hS hk1 wq_124 dX5_append_1 ?_
  refine lv_if_lt (tgt := 39) hC.1 hC.2.1 dX5_append_4 (by decide) (fun c7 => ?_) (fun c7 => ?_)
  · have h := h.1 c7
    exact g_vret hC hr hlk hS h dX5_append_39
  · have h := h.2 c7
    refine lv_aload_n hC.1 hC.2.1 dX5_append_7 rfl (lv_at hl 0 rfl) ?_
    refine gf_12_1 hC hS hk1 wq_124 dX5_append_8 ?_
    refine lv_aload_n hC.1 hC.2.1 dX5_append_11 rfl (lv_at hl 0 rfl) ?_
    refine gf_12_0 hC hS hk1 wq_123 dX5_append_12 ?_
    obtain ⟨hk2, h⟩ := h
    refine g_alen hC hS hk2 (by decide) dX5_append_15 ?_
    refine W.eq (g2 := F0 m 16 ls [.int 8, .int (V 12 w 0 1 0)]) rfl ?_
    refine lv_icmp_ge (tgt := 39) hC.1 hC.2.1 dX5_append_16 (by decide) (fun c6 => ?_) (fun c6 => ?_)
    · have h := h.1 c6
      exact g_vret hC hr hlk hS h dX5_append_39
    · have h := h.2 c6
      refine lv_aload_n hC.1 hC.2.1 dX5_append_19 rfl (lv_at hl 0 rfl) ?_
      refine gf_12_0 hC hS hk1 wq_123 dX5_append_20 ?_
      refine lv_aload_n hC.1 hC.2.1 dX5_append_23 rfl (lv_at hl 0 rfl) ?_
      refine gf_12_1 hC hS hk1 wq_124 dX5_append_24 ?_
      refine lv_iload_n hC.1 hC.2.1 dX5_append_27 rfl (lv_at hl 1 rfl) ?_
      obtain ⟨hx3, h⟩ := h
      refine g_iast hC hS hk2 (by decide) hx3 dX5_append_28 (fun H locs hS => ?_)
      obtain ⟨V4, eV4⟩ : ∃ z : VS, z = vup V 13 w 0 0 (V 12 w 0 1 0).toNatClampNeg a1 := ⟨_, rfl⟩
      rw [← eV4] at hS
      have h := h V4 eV4
      refine lv_aload_n hC.1 hC.2.1 dX5_append_29 rfl (lv_at hl 0 rfl) ?_
      refine lv_dup hC.1 hC.2.1 dX5_append_30 rfl ?_
      refine gf_12_1 hC hS hk1 wq_124 dX5_append_31 ?_
      refine lv_iconst (v := 1) hC.1 hC.2.1 dX5_append_34 (by decide) ?_
      refine lv_iadd hC.1 hC.2.1 dX5_append_35 ?_
      refine pf_12_1 hC hS hk1 wq_124 dX5_append_36 (fun H locs hS => ?_)
      obtain ⟨V5, eV5⟩ : ∃ z : VS, z = vup V4 12 w 0 1 0 ((V4 12 w 0 1 0) + 1) := ⟨_, rfl⟩
      rw [← eV5] at hS
      have h := h V5 eV5
      exact g_vret hC hr hlk hS h dX5_append_39
def wk_X5_timesOf_4 (ks : List KY) (w : Nat) (a1 : Int32) (post : Int32 → VS → Prop) (B4 : Int32 → Int32 → VS → Prop) (x1 : Int32) (x2 : Int32) (x3 : Int32) (V : VS) : Prop := ((12, w, 0) ∈ ks ∧ ((V 12 w 0 1 0) ≤ x3 → (post x2 V)) ∧ (¬ ((V 12 w 0 1 0) ≤ x3) → (wp_X5_haltAt ks w x3 V (fun r3 V2 => ((r3 = x1 → (∀ y4 : Int32, y4 = x2 + 1 → ∀ y5 : Int32, y5 = x3 + 1 → B4 y4 y5 V2)) ∧ (¬ (r3 = x1) → (∀ y6 : Int32, y6 = x3 + 1 → B4 x2 y6 V2)))))))
def wl_X5_timesOf_4 (ks : List KY) (w : Nat) (a1 : Int32) (post : Int32 → VS → Prop) (x1 : Int32) (x2 : Int32) (x3 : Int32) (V : VS) : Prop := ∃ J : Nat → Int32 → Int32 → VS → Prop, (∃ n, J n x2 x3 V) ∧ ∀ (n : Nat) (x2 : Int32) (x3 : Int32) (V : VS), J n x2 x3 V → wk_X5_timesOf_4 ks w a1 post (fun x2 x3 V => ∃ n', n' < n ∧ J n' x2 x3 V) x1 x2 x3 V
def wp_X5_timesOf (ks : List KY) (w : Nat) (a1 : Int32) (V : VS) (post : Int32 → VS → Prop) : Prop := (wl_X5_timesOf_4 ks w a1 post a1 0 0 V)
set_option maxHeartbeats 4000000 in
set_option maxRecDepth 100000 in
theorem c_X5_timesOf (l : Launch) (G : GG) (ks : List KY) (ad : AD) (w : Nat) (a1 : Int32) (V : VS) (post : Int32 → VS → Prop) (h : wp_X5_timesOf ks w a1 V post) (sz : Nat) : Met l yX5_timesOf (ws_ yX5_timesOf cX5_timesOf 4 (some .int)) ({ frames := 1, cells := 0, slots := 0, locals := 21 }) (mPc [.ref (ad 12 w 0), .int a1] G ks ad V sz) (mQi post G ks ad sz) 0 0 (mA ks ad sz) := by
  refine g_met (own := RX5) (by decide) rfl (Nat.le_of_ble_eq_true rfl) ?_
  intro p e s m args below meth c ls hC hsz hr hlk hin hS ha hl
  have hl : lv_has ls 4 [(0, .ref (ad 12 w 0)), (1, .int a1)] := hl
  unfold wp_X5_timesOf at h
  have kT4 : ∀ (x1 : Int32) (x2 : Int32) (x3 : Int32) (V : VS) (H : Heap) (locs : List Loc) (ls : Array Slot), wl_X5_timesOf_4 ks w a1 post x1 x2 x3 V → ST G ks ad V (mA ks ad sz) s.heap H locs → lv_has ls 4 [(0, .ref (ad 12 w 0)), (1, .int x1), (2, .int x2), (3, .int x3)] → W p l e ({ frames := 1, cells := 0, slots := 0, locals := 21 } : Room) s m args below meth c H locs 0 0 (MQ below (mQi post G ks ad sz) args s 0 0 (mA ks ad sz)) (F0 m 4 ls []) := by
    intro x1 x2 x3 V H locs ls h hS hl
    obtain ⟨J, ⟨n, hJ⟩, hb⟩ := h
    induction n using Nat.strongRecOn generalizing x2 x3 V H locs ls with
    | _ n ih =>
      have h := hb n x2 x3 V hJ
      obtain ⟨B4, eB⟩ : ∃ z : Int32 → Int32 → VS → Prop, z = (fun x2 x3 V => ∃ n', n' < n ∧ J n' x2 x3 V) := ⟨_, rfl⟩
      rw [← eB] at h
      have kB4 : ∀ (x2 : Int32) (x3 : Int32) (V : VS) (H : Heap) (locs : List Loc) (ls : Array Slot), B4 x2 x3 V → ST G ks ad V (mA ks ad sz) s.heap H locs → lv_has ls 4 [(0, .ref (ad 12 w 0)), (1, .int x1), (2, .int x2), (3, .int x3)] → W p l e ({ frames := 1, cells := 0, slots := 0, locals := 21 } : Room) s m args below meth c H locs 0 0 (MQ below (mQi post G ks ad sz) args s 0 0 (mA ks ad sz)) (F0 m 4 ls []) := by
        intro x2 x3 V H locs ls h hS hl
        rw [eB] at h
        obtain ⟨n', hn, hJ'⟩ := h
        exact ih n' hn _ _ _ _ _ _ hS hl hJ'
      clear ih hJ hb eB
      unfold wk_X5_timesOf_4 at h
      refine lv_iload_n hC.1 hC.2.1 dX5_timesOf_4 rfl (lv_at hl 3 rfl) ?_
      refine lv_aload_n hC.1 hC.2.1 dX5_timesOf_5 rfl (lv_at hl 0 rfl) ?_
      obtain ⟨hk1, h⟩ := h
      refine gf_12_1 hC hS hk1 wq_124 dX5_timesOf_6 ?_
      refine lv_icmp_ge (tgt := 30) hC.1 hC.2.1 dX5_timesOf_9 (by decide) (fun c8 => ?_) (fun c8 => ?_)
      · have h := h.1 c8
        refine lv_iload_n hC.1 hC.2.1 dX5_timesOf_30 rfl (lv_at hl 2 rfl) ?_
        exact g_iret hC hr hlk hS h dX5_timesOf_31
      · have h := h.2 c8
        refine lv_aload_n hC.1 hC.2.1 dX5_timesOf_12 rfl (lv_at hl 0 rfl) ?_
        refine lv_iload_n hC.1 hC.2.1 dX5_timesOf_13 rfl (lv_at hl 3 rfl) ?_
        refine g_calli0 hS (g_runV (n := 1) (rest := []) (As := [.int x3]) (C := RX5) (T := TX5) (N := 3) hC hS hk1 rfl rfl (c_X5_haltAt l G ks ad w x3 V _ h _) (gI wq_275 wq_251 wq_252 wq_45 wq_253) rfl ⟨⟨by decide +kernel, by decide +kernel, by decide +kernel⟩, rfl, rfl, Nat.le_of_ble_eq_true rfl, Nat.le_of_ble_eq_true rfl⟩ rfl hl rfl (Nat.le_of_ble_eq_true rfl) dX5_timesOf_14 ⟨Nat.le_of_ble_eq_true rfl, Nat.le_of_ble_eq_true rfl⟩) (fun r3 V2 H locs h hS => ?_)
        refine lv_iload_n hC.1 hC.2.1 dX5_timesOf_17 rfl (lv_at hl 1 rfl) ?_
        refine lv_icmp_ne (tgt := 24) hC.1 hC.2.1 dX5_timesOf_18 (by decide) (fun c7 => ?_) (fun c7 => ?_)
        · have h := h.2 c7
          obtain ⟨y6, ey6⟩ : ∃ z : Int32, z = x3 + 1 := ⟨_, rfl⟩
          have h := h y6 ey6
          refine lv_iinc (v := y6) (lv' := [(3, .int y6), (0, .ref (ad 12 w 0)), (1, .int x1), (2, .int x2)]) hC.1 hC.2.1 dX5_timesOf_24 hl (k := 3) rfl (by rw [ey6]; rfl) (by decide) rfl (fun ls hl => ?_)
          refine lv_goto (tgt := 4) hC.1 hC.2.1 dX5_timesOf_27 (by decide) ?_
          exact kB4 _ _ _ _ _ _ h hS (lv_sub hl [1, 2, 3, 0] rfl)
        · have h := h.1 c7
          obtain ⟨y4, ey4⟩ : ∃ z : Int32, z = x2 + 1 := ⟨_, rfl⟩
          have h := h y4 ey4
          refine lv_iinc (v := y4) (lv' := [(2, .int y4), (0, .ref (ad 12 w 0)), (1, .int x1), (3, .int x3)]) hC.1 hC.2.1 dX5_timesOf_21 hl (k := 2) rfl (by rw [ey4]; rfl) (by decide) rfl (fun ls hl => ?_)
          obtain ⟨y5, ey5⟩ : ∃ z : Int32, z = x3 + 1 := ⟨_, rfl⟩
          have h := h y5 ey5
          refine lv_iinc (v := y5) (lv' := [(3, .int y5), (2, .int y4), (0, .ref (ad 12 w 0)), (1, .int x1)]) hC.1 hC.2.1 dX5_timesOf_24 hl (k := 3) rfl (by rw [ey5]; rfl) (by decide) rfl (fun ls hl => ?_)
          refine lv_goto (tgt := 4) hC.1 hC.2.1 dX5_timesOf_27 (by decide) ?_
          exact kB4 _ _ _ _ _ _ h hS (lv_sub hl [2, 3, 1, 0] rfl)
  refine lv_iconst (v := 0) hC.1 hC.2.1 dX5_timesOf_0 (by decide) ?_
  refine lv_istore_n (lv' := [(2, .int 0), (0, .ref (ad 12 w 0)), (1, .int a1)]) hC.1 hC.2.1 dX5_timesOf_1 rfl hl (by decide) rfl (fun ls hl => ?_)
  refine lv_iconst (v := 0) hC.1 hC.2.1 dX5_timesOf_2 (by decide) ?_
  refine lv_istore_n (lv' := [(3, .int 0), (2, .int 0), (0, .ref (ad 12 w 0)), (1, .int a1)]) hC.1 hC.2.1 dX5_timesOf_3 rfl hl (by decide) rfl (fun ls hl => ?_)
  exact kT4 _ _ _ _ _ _ _ h hS (lv_sub hl [2, 3, 1, 0] rfl)
def wp_X3_size (ks : List KY) (w i : Nat) (V : VS) (post : Int32 → VS → Prop) : Prop := ((8, w, i) ∈ ks ∧ post (V 8 w i 1 0) V)
set_option maxHeartbeats 4000000 in
set_option maxRecDepth 100000 in
theorem c_X3_size (l : Launch) (G : GG) (ks : List KY) (ad : AD) (w : Nat) (i : Nat) (V : VS) (post : Int32 → VS → Prop) (h : wp_X3_size ks w i V post) (sz : Nat) : Met l yX3_size (ws_ yX3_size cX3_size 1 (some .int)) ({ frames := 0, cells := 0, slots := 0, locals := 0 }) (mPc [.ref (ad 8 w i)] G ks ad V sz) (mQi post G ks ad sz) 0 0 (mA ks ad sz) := by
  refine g_met (own := RX3) (by decide) rfl (Nat.le_of_ble_eq_true rfl) ?_
  intro p e s m args below meth c ls hC hsz hr hlk hin hS ha hl
  have hl : lv_has ls 1 [(0, .ref (ad 8 w i))] := hl
  unfold wp_X3_size at h
  refine lv_aload_n hC.1 hC.2.1 dX3_size_0 rfl (lv_at hl 0 rfl) ?_
  obtain ⟨hk1, h⟩ := h
  refine gf_8_1 hC hS hk1 wq_672 dX3_size_1 ?_
  exact g_iret hC hr hlk hS h dX3_size_4
def wp_X3_readerAt (ks : List KY) (w i : Nat) (a1 : Int32) (V : VS) (post : Int32 → VS → Prop) : Prop := ((a1 < 0 → (post (-1) V)) ∧ (¬ (a1 < 0) → ((8, w, i) ∈ ks ∧ ((V 8 w i 1 0) ≤ a1 → (post (-1) V)) ∧ (¬ ((V 8 w i 1 0) ≤ a1) → ((9, w, i) ∈ ks ∧ ((10 : Int32) ≤ a1 → (post (-1) V)) ∧ (¬ ((10 : Int32) ≤ a1) → (vp_in a1 10 ∧ post (V 9 w i 0 a1.toNatClampNeg) V)))))))
set_option maxHeartbeats 4000000 in
set_option maxRecDepth 100000 in
theorem c_X3_readerAt (l : Launch) (G : GG) (ks : List KY) (ad : AD) (w : Nat) (i : Nat) (a1 : Int32) (V : VS) (post : Int32 → VS → Prop) (h : wp_X3_readerAt ks w i a1 V post) (sz : Nat) : Met l yX3_readerAt (ws_ yX3_readerAt cX3_readerAt 2 (some .int)) ({ frames := 0, cells := 0, slots := 0, locals := 0 }) (mPc [.ref (ad 8 w i), .int a1] G ks ad V sz) (mQi post G ks ad sz) 0 0 (mA ks ad sz) := by
  refine g_met (own := RX3) (by decide) rfl (Nat.le_of_ble_eq_true rfl) ?_
  intro p e s m args below meth c ls hC hsz hr hlk hin hS ha hl
  have hl : lv_has ls 2 [(0, .ref (ad 8 w i)), (1, .int a1)] := hl
  unfold wp_X3_readerAt at h
  refine lv_iload_n hC.1 hC.2.1 dX3_readerAt_0 rfl (lv_at hl 1 rfl) ?_
  refine lv_if_lt (tgt := 30) hC.1 hC.2.1 dX3_readerAt_1 (by decide) (fun c6 => ?_) (fun c6 => ?_)
  · have h := h.1 c6
    refine lv_iconst (v := (-1)) hC.1 hC.2.1 dX3_readerAt_30 (by decide) ?_
    exact g_iret hC hr hlk hS h dX3_readerAt_31
  · have h := h.2 c6
    refine lv_iload_n hC.1 hC.2.1 dX3_readerAt_4 rfl (lv_at hl 1 rfl) ?_
    refine lv_aload_n hC.1 hC.2.1 dX3_readerAt_5 rfl (lv_at hl 0 rfl) ?_
    obtain ⟨hk1, h⟩ := h
    refine gf_8_1 hC hS hk1 wq_672 dX3_readerAt_6 ?_
    refine lv_icmp_ge (tgt := 30) hC.1 hC.2.1 dX3_readerAt_9 (by decide) (fun c5 => ?_) (fun c5 => ?_)
    · have h := h.1 c5
      refine lv_iconst (v := (-1)) hC.1 hC.2.1 dX3_readerAt_30 (by decide) ?_
      exact g_iret hC hr hlk hS h dX3_readerAt_31
    · have h := h.2 c5
      refine lv_iload_n hC.1 hC.2.1 dX3_readerAt_12 rfl (lv_at hl 1 rfl) ?_
      refine lv_aload_n hC.1 hC.2.1 dX3_readerAt_13 rfl (lv_at hl 0 rfl) ?_
      refine gf_8_0 hC hS hk1 wq_671 dX3_readerAt_14 ?_
      obtain ⟨hk2, h⟩ := h
      refine g_alen hC hS hk2 (by decide) dX3_readerAt_17 ?_
      refine W.eq (g2 := F0 m 18 ls [.int 10, .int a1]) rfl ?_
      refine lv_icmp_ge (tgt := 30) hC.1 hC.2.1 dX3_readerAt_18 (by decide) (fun c4 => ?_) (fun c4 => ?_)
      · have h := h.1 c4
        refine lv_iconst (v := (-1)) hC.1 hC.2.1 dX3_readerAt_30 (by decide) ?_
        exact g_iret hC hr hlk hS h dX3_readerAt_31
      · have h := h.2 c4
        refine lv_aload_n hC.1 hC.2.1 dX3_readerAt_21 rfl (lv_at hl 0 rfl) ?_
        refine gf_8_0 hC hS hk1 wq_671 dX3_readerAt_22 ?_
        refine lv_iload_n hC.1 hC.2.1 dX3_readerAt_25 rfl (lv_at hl 1 rfl) ?_
        obtain ⟨hx3, h⟩ := h
        refine g_iald hC hS hk2 (by decide) hx3 dX3_readerAt_26 ?_
        refine lv_goto (tgt := 31) hC.1 hC.2.1 dX3_readerAt_27 (by decide) ?_
        exact g_iret hC hr hlk hS h dX3_readerAt_31
def wp_X3_first (ks : List KY) (w i : Nat) (V : VS) (post : Int32 → VS → Prop) : Prop := ((8, w, i) ∈ ks ∧ ((V 8 w i 1 0) ≤ 0 → (post (-1) V)) ∧ (¬ ((V 8 w i 1 0) ≤ 0) → ((9, w, i) ∈ ks ∧ ((10 : Int32) ≤ 0 → (post (-1) V)) ∧ (¬ ((10 : Int32) ≤ 0) → (post (V 9 w i 0 0) V)))))
set_option maxHeartbeats 4000000 in
set_option maxRecDepth 100000 in
theorem c_X3_first (l : Launch) (G : GG) (ks : List KY) (ad : AD) (w : Nat) (i : Nat) (V : VS) (post : Int32 → VS → Prop) (h : wp_X3_first ks w i V post) (sz : Nat) : Met l yX3_first (ws_ yX3_first cX3_first 1 (some .int)) ({ frames := 0, cells := 0, slots := 0, locals := 0 }) (mPc [.ref (ad 8 w i)] G ks ad V sz) (mQi post G ks ad sz) 0 0 (mA ks ad sz) := by
  refine g_met (own := RX3) (by decide) rfl (Nat.le_of_ble_eq_true rfl) ?_
  intro p e s m args below meth c ls hC hsz hr hlk hin hS ha hl
  have hl : lv_has ls 1 [(0, .ref (ad 8 w i))] := hl
  unfold wp_X3_first at h
  refine lv_aload_n hC.1 hC.2.1 dX3_first_0 rfl (lv_at hl 0 rfl) ?_
  obtain ⟨hk1, h⟩ := h
  refine gf_8_1 hC hS hk1 wq_672 dX3_first_1 ?_
  refine lv_if_le (tgt := 24) hC.1 hC.2.1 dX3_first_4 (by decide) (fun c4 => ?_) (fun c4 => ?_)
  · have h := h.1 c4
    refine lv_iconst (v := (-1)) hC.1 hC.2.1 dX3_first_24 (by decide) ?_
    exact g_iret hC hr hlk hS h dX3_first_25
  · have h := h.2 c4
    refine lv_aload_n hC.1 hC.2.1 dX3_first_7 rfl (lv_at hl 0 rfl) ?_
    refine gf_8_0 hC hS hk1 wq_671 dX3_first_8 ?_
    obtain ⟨hk2, h⟩ := h
    refine g_alen hC hS hk2 (by decide) dX3_first_11 ?_
    refine W.eq (g2 := F0 m 12 ls [.int 10]) rfl ?_
    refine lv_if_le (tgt := 24) hC.1 hC.2.1 dX3_first_12 (by decide) (fun c3 => ?_) (fun c3 => ?_)
    · have h := h.1 c3
      refine lv_iconst (v := (-1)) hC.1 hC.2.1 dX3_first_24 (by decide) ?_
      exact g_iret hC hr hlk hS h dX3_first_25
    · have h := h.2 c3
      refine lv_aload_n hC.1 hC.2.1 dX3_first_15 rfl (lv_at hl 0 rfl) ?_
      refine gf_8_0 hC hS hk1 wq_671 dX3_first_16 ?_
      refine lv_iconst (v := 0) hC.1 hC.2.1 dX3_first_19 (by decide) ?_
      refine g_iald hC hS hk2 (by decide) (by unfold vp_in; decide) dX3_first_20 ?_
      refine lv_goto (tgt := 25) hC.1 hC.2.1 dX3_first_21 (by decide) ?_
      exact g_iret hC hr hlk hS h dX3_first_25
def wk_X3_placeOf_2 (ks : List KY) (w i : Nat) (a1 : Int32) (post : Int32 → VS → Prop) (B2 : Int32 → VS → Prop) (x1 : Int32) (x2 : Int32) (V : VS) : Prop := ((8, w, i) ∈ ks ∧ ((V 8 w i 1 0) ≤ x2 → (post (-1) V)) ∧ (¬ ((V 8 w i 1 0) ≤ x2) → ((9, w, i) ∈ ks ∧ ((10 : Int32) ≤ x2 → (post (-1) V)) ∧ (¬ ((10 : Int32) ≤ x2) → (vp_in x2 10 ∧ ((V 9 w i 0 x2.toNatClampNeg) = x1 → (post x2 V)) ∧ (¬ ((V 9 w i 0 x2.toNatClampNeg) = x1) → (∀ y4 : Int32, y4 = x2 + 1 → B2 y4 V)))))))
def wl_X3_placeOf_2 (ks : List KY) (w i : Nat) (a1 : Int32) (post : Int32 → VS → Prop) (x1 : Int32) (x2 : Int32) (V : VS) : Prop := ∃ J : Nat → Int32 → VS → Prop, (∃ n, J n x2 V) ∧ ∀ (n : Nat) (x2 : Int32) (V : VS), J n x2 V → wk_X3_placeOf_2 ks w i a1 post (fun x2 V => ∃ n', n' < n ∧ J n' x2 V) x1 x2 V
def wp_X3_placeOf (ks : List KY) (w i : Nat) (a1 : Int32) (V : VS) (post : Int32 → VS → Prop) : Prop := (wl_X3_placeOf_2 ks w i a1 post a1 0 V)
set_option maxHeartbeats 4000000 in
set_option maxRecDepth 100000 in
theorem c_X3_placeOf (l : Launch) (G : GG) (ks : List KY) (ad : AD) (w : Nat) (i : Nat) (a1 : Int32) (V : VS) (post : Int32 → VS → Prop) (h : wp_X3_placeOf ks w i a1 V post) (sz : Nat) : Met l yX3_placeOf (ws_ yX3_placeOf cX3_placeOf 3 (some .int)) ({ frames := 0, cells := 0, slots := 0, locals := 0 }) (mPc [.ref (ad 8 w i), .int a1] G ks ad V sz) (mQi post G ks ad sz) 0 0 (mA ks ad sz) := by
  refine g_met (own := RX3) (by decide) rfl (Nat.le_of_ble_eq_true rfl) ?_
  intro p e s m args below meth c ls hC hsz hr hlk hin hS ha hl
  have hl : lv_has ls 3 [(0, .ref (ad 8 w i)), (1, .int a1)] := hl
  unfold wp_X3_placeOf at h
  have kT2 : ∀ (x1 : Int32) (x2 : Int32) (V : VS) (H : Heap) (locs : List Loc) (ls : Array Slot), wl_X3_placeOf_2 ks w i a1 post x1 x2 V → ST G ks ad V (mA ks ad sz) s.heap H locs → lv_has ls 3 [(0, .ref (ad 8 w i)), (1, .int x1), (2, .int x2)] → W p l e ({ frames := 0, cells := 0, slots := 0, locals := 0 } : Room) s m args below meth c H locs 0 0 (MQ below (mQi post G ks ad sz) args s 0 0 (mA ks ad sz)) (F0 m 2 ls []) := by
    intro x1 x2 V H locs ls h hS hl
    obtain ⟨J, ⟨n, hJ⟩, hb⟩ := h
    induction n using Nat.strongRecOn generalizing x2 V H locs ls with
    | _ n ih =>
      have h := hb n x2 V hJ
      obtain ⟨B2, eB⟩ : ∃ z : Int32 → VS → Prop, z = (fun x2 V => ∃ n', n' < n ∧ J n' x2 V) := ⟨_, rfl⟩
      rw [← eB] at h
      have kB2 : ∀ (x2 : Int32) (V : VS) (H : Heap) (locs : List Loc) (ls : Array Slot), B2 x2 V → ST G ks ad V (mA ks ad sz) s.heap H locs → lv_has ls 3 [(0, .ref (ad 8 w i)), (1, .int x1), (2, .int x2)] → W p l e ({ frames := 0, cells := 0, slots := 0, locals := 0 } : Room) s m args below meth c H locs 0 0 (MQ below (mQi post G ks ad sz) args s 0 0 (mA ks ad sz)) (F0 m 2 ls []) := by
        intro x2 V H locs ls h hS hl
        rw [eB] at h
        obtain ⟨n', hn, hJ'⟩ := h
        exact ih n' hn _ _ _ _ _ hS hl hJ'
      clear ih hJ hb eB
      unfold wk_X3_placeOf_2 at h
      refine lv_iload_n hC.1 hC.2.1 dX3_placeOf_2 rfl (lv_at hl 2 rfl) ?_
      refine lv_aload_n hC.1 hC.2.1 dX3_placeOf_3 rfl (lv_at hl 0 rfl) ?_
      obtain ⟨hk1, h⟩ := h
      refine gf_8_1 hC hS hk1 wq_672 dX3_placeOf_4 ?_
      refine lv_icmp_ge (tgt := 37) hC.1 hC.2.1 dX3_placeOf_7 (by decide) (fun c7 => ?_) (fun c7 => ?_)
      · have h := h.1 c7
        refine lv_iconst (v := (-1)) hC.1 hC.2.1 dX3_placeOf_37 (by decide) ?_
        exact g_iret hC hr hlk hS h dX3_placeOf_38
      · have h := h.2 c7
        refine lv_iload_n hC.1 hC.2.1 dX3_placeOf_10 rfl (lv_at hl 2 rfl) ?_
        refine lv_aload_n hC.1 hC.2.1 dX3_placeOf_11 rfl (lv_at hl 0 rfl) ?_
        refine gf_8_0 hC hS hk1 wq_671 dX3_placeOf_12 ?_
        obtain ⟨hk2, h⟩ := h
        refine g_alen hC hS hk2 (by decide) dX3_placeOf_15 ?_
        refine W.eq (g2 := F0 m 16 ls [.int 10, .int x2]) rfl ?_
        refine lv_icmp_ge (tgt := 37) hC.1 hC.2.1 dX3_placeOf_16 (by decide) (fun c6 => ?_) (fun c6 => ?_)
        · have h := h.1 c6
          refine lv_iconst (v := (-1)) hC.1 hC.2.1 dX3_placeOf_37 (by decide) ?_
          exact g_iret hC hr hlk hS h dX3_placeOf_38
        · have h := h.2 c6
          refine lv_aload_n hC.1 hC.2.1 dX3_placeOf_19 rfl (lv_at hl 0 rfl) ?_
          refine gf_8_0 hC hS hk1 wq_671 dX3_placeOf_20 ?_
          refine lv_iload_n hC.1 hC.2.1 dX3_placeOf_23 rfl (lv_at hl 2 rfl) ?_
          obtain ⟨hx3, h⟩ := h
          refine g_iald hC hS hk2 (by decide) hx3 dX3_placeOf_24 ?_
          refine lv_iload_n hC.1 hC.2.1 dX3_placeOf_25 rfl (lv_at hl 1 rfl) ?_
          refine lv_icmp_ne (tgt := 31) hC.1 hC.2.1 dX3_placeOf_26 (by decide) (fun c5 => ?_) (fun c5 => ?_)
          · have h := h.2 c5
            obtain ⟨y4, ey4⟩ : ∃ z : Int32, z = x2 + 1 := ⟨_, rfl⟩
            have h := h y4 ey4
            refine lv_iinc (v := y4) (lv' := [(2, .int y4), (0, .ref (ad 8 w i)), (1, .int x1)]) hC.1 hC.2.1 dX3_placeOf_31 hl (k := 2) rfl (by rw [ey4]; rfl) (by decide) rfl (fun ls hl => ?_)
            refine lv_goto (tgt := 2) hC.1 hC.2.1 dX3_placeOf_34 (by decide) ?_
            exact kB2 _ _ _ _ _ h hS (lv_sub hl [1, 2, 0] rfl)
          · have h := h.1 c5
            refine lv_iload_n hC.1 hC.2.1 dX3_placeOf_29 rfl (lv_at hl 2 rfl) ?_
            exact g_iret hC hr hlk hS h dX3_placeOf_30
  refine lv_iconst (v := 0) hC.1 hC.2.1 dX3_placeOf_0 (by decide) ?_
  refine lv_istore_n (lv' := [(2, .int 0), (0, .ref (ad 8 w i)), (1, .int a1)]) hC.1 hC.2.1 dX3_placeOf_1 rfl hl (by decide) rfl (fun ls hl => ?_)
  exact kT2 _ _ _ _ _ _ h hS (lv_sub hl [1, 2, 0] rfl)
def wp_X3_join (ks : List KY) (w i : Nat) (a1 : Int32) (V : VS) (post : VS → Prop) : Prop := ((8, w, i) ∈ ks ∧ ((V 8 w i 1 0) < 0 → (post V)) ∧ (¬ ((V 8 w i 1 0) < 0) → ((9, w, i) ∈ ks ∧ ((10 : Int32) ≤ (V 8 w i 1 0) → (post V)) ∧ (¬ ((10 : Int32) ≤ (V 8 w i 1 0)) → (vp_in (V 8 w i 1 0) 10 ∧ ∀ V4 : VS, V4 = vup V 9 w i 0 (V 8 w i 1 0).toNatClampNeg a1 → ∀ V5 : VS, V5 = vup V4 8 w i 1 0 ((V4 8 w i 1 0) + 1) → post V5)))))
set_option maxHeartbeats 4000000 in
set_option maxRecDepth 100000 in
theorem c_X3_join (l : Launch) (G : GG) (ks : List KY) (ad : AD) (w : Nat) (i : Nat) (a1 : Int32) (V : VS) (post : VS → Prop) (h : wp_X3_join ks w i a1 V post) (sz : Nat) : Met l yX3_join (ws_ yX3_join cX3_join 2 none) ({ frames := 0, cells := 0, slots := 0, locals := 0 }) (mPc [.ref (ad 8 w i), .int a1] G ks ad V sz) (mQv post G ks ad sz) 0 0 (mA ks ad sz) := by
  refine g_met (own := RX3) (by decide) rfl (Nat.le_of_ble_eq_true rfl) ?_
  intro p e s m args below meth c ls hC hsz hr hlk hin hS ha hl
  have hl : lv_has ls 2 [(0, .ref (ad 8 w i)), (1, .int a1)] := hl
  unfold wp_X3_join at h
  refine lv_aload_n hC.1 hC.2.1 dX3_join_0 rfl (lv_at hl 0 rfl) ?_
  obtain ⟨hk1, h⟩ := h
  refine gf_8_1 hC hS hk1 wq_672 dX3_join_1 ?_
  refine lv_if_lt (tgt := 39) hC.1 hC.2.1 dX3_join_4 (by decide) (fun c7 => ?_) (fun c7 => ?_)
  · have h := h.1 c7
    exact g_vret hC hr hlk hS h dX3_join_39
  · have h := h.2 c7
    refine lv_aload_n hC.1 hC.2.1 dX3_join_7 rfl (lv_at hl 0 rfl) ?_
    refine gf_8_1 hC hS hk1 wq_672 dX3_join_8 ?_
    refine lv_aload_n hC.1 hC.2.1 dX3_join_11 rfl (lv_at hl 0 rfl) ?_
    refine gf_8_0 hC hS hk1 wq_671 dX3_join_12 ?_
    obtain ⟨hk2, h⟩ := h
    refine g_alen hC hS hk2 (by decide) dX3_join_15 ?_
    refine W.eq (g2 := F0 m 16 ls [.int 10, .int (V 8 w i 1 0)]) rfl ?_
    refine lv_icmp_ge (tgt := 39) hC.1 hC.2.1 dX3_join_16 (by decide) (fun c6 => ?_) (fun c6 => ?_)
    · have h := h.1 c6
      exact g_vret hC hr hlk hS h dX3_join_39
    · have h := h.2 c6
      refine lv_aload_n hC.1 hC.2.1 dX3_join_19 rfl (lv_at hl 0 rfl) ?_
      refine gf_8_0 hC hS hk1 wq_671 dX3_join_20 ?_
      refine lv_aload_n hC.1 hC.2.1 dX3_join_23 rfl (lv_at hl 0 rfl) ?_
      refine gf_8_1 hC hS hk1 wq_672 dX3_join_24 ?_
      refine lv_iload_n hC.1 hC.2.1 dX3_join_27 rfl (lv_at hl 1 rfl) ?_
      obtain ⟨hx3, h⟩ := h
      refine g_iast hC hS hk2 (by decide) hx3 dX3_join_28 (fun H locs hS => ?_)
      obtain ⟨V4, eV4⟩ : ∃ z : VS, z = vup V 9 w i 0 (V 8 w i 1 0).toNatClampNeg a1 := ⟨_, rfl⟩
      rw [← eV4] at hS
      have h := h V4 eV4
      refine lv_aload_n hC.1 hC.2.1 dX3_join_29 rfl (lv_at hl 0 rfl) ?_
      refine lv_dup hC.1 hC.2.1 dX3_join_30 rfl ?_
      refine gf_8_1 hC hS hk1 wq_672 dX3_join_31 ?_
      refine lv_iconst (v := 1) hC.1 hC.2.1 dX3_join_34 (by decide) ?_
      refine lv_iadd hC.1 hC.2.1 dX3_join_35 ?_
      refine pf_8_1 hC hS hk1 wq_672 dX3_join_36 (fun H locs hS => ?_)
      obtain ⟨V5, eV5⟩ : ∃ z : VS, z = vup V4 8 w i 1 0 ((V4 8 w i 1 0) + 1) := ⟨_, rfl⟩
      rw [← eV5] at hS
      have h := h V5 eV5
      exact g_vret hC hr hlk hS h dX3_join_39
def wb_X3_dropPlace_56 (ks : List KY) (w i : Nat) (a1 : Int32) (post : VS → Prop) (V : VS) : Prop := ((8, w, i) ∈ ks ∧ ∀ V2 : VS, V2 = vup V 8 w i 1 0 ((V 8 w i 1 0) - 1) → post V2)
def wk_X3_dropPlace_15 (ks : List KY) (w i : Nat) (a1 : Int32) (post : VS → Prop) (B15 : Int32 → VS → Prop) (x2 : Int32) (V : VS) : Prop := ((8, w, i) ∈ ks ∧ ((V 8 w i 1 0) ≤ (x2 + 1) → wb_X3_dropPlace_56 ks w i a1 post V) ∧ (¬ ((V 8 w i 1 0) ≤ (x2 + 1)) → ((9, w, i) ∈ ks ∧ ((10 : Int32) ≤ (x2 + 1) → wb_X3_dropPlace_56 ks w i a1 post V) ∧ (¬ ((10 : Int32) ≤ (x2 + 1)) → (vp_in (x2 + 1) 10 ∧ vp_in x2 10 ∧ ∀ V7 : VS, V7 = vup V 9 w i 0 x2.toNatClampNeg (V 9 w i 0 (x2 + 1).toNatClampNeg) → ∀ y8 : Int32, y8 = x2 + 1 → B15 y8 V7)))))
def wl_X3_dropPlace_15 (ks : List KY) (w i : Nat) (a1 : Int32) (post : VS → Prop) (x2 : Int32) (V : VS) : Prop := ∃ J : Nat → Int32 → VS → Prop, (∃ n, J n x2 V) ∧ ∀ (n : Nat) (x2 : Int32) (V : VS), J n x2 V → wk_X3_dropPlace_15 ks w i a1 post (fun x2 V => ∃ n', n' < n ∧ J n' x2 V) x2 V
def wp_X3_dropPlace (ks : List KY) (w i : Nat) (a1 : Int32) (V : VS) (post : VS → Prop) : Prop := ((a1 < 0 → (post V)) ∧ (¬ (a1 < 0) → ((8, w, i) ∈ ks ∧ (a1 < (V 8 w i 1 0) → (wl_X3_dropPlace_15 ks w i a1 post a1 V)) ∧ (¬ (a1 < (V 8 w i 1 0)) → (post V)))))
set_option maxHeartbeats 4000000 in
set_option maxRecDepth 100000 in
theorem c_X3_dropPlace (l : Launch) (G : GG) (ks : List KY) (ad : AD) (w : Nat) (i : Nat) (a1 : Int32) (V : VS) (post : VS → Prop) (h : wp_X3_dropPlace ks w i a1 V post) (sz : Nat) : Met l yX3_dropPlace (ws_ yX3_dropPlace cX3_dropPlace 3 none) ({ frames := 0, cells := 0, slots := 0, locals := 0 }) (mPc [.ref (ad 8 w i), .int a1] G ks ad V sz) (mQv post G ks ad sz) 0 0 (mA ks ad sz) := by
  refine g_met (own := RX3) (by decide) rfl (Nat.le_of_ble_eq_true rfl) ?_
  intro p e s m args below meth c ls hC hsz hr hlk hin hS ha hl
  have hl : lv_has ls 3 [(0, .ref (ad 8 w i)), (1, .int a1)] := hl
  unfold wp_X3_dropPlace at h
  have kT56 : ∀ (V : VS) (H : Heap) (locs : List Loc) (ls : Array Slot), wb_X3_dropPlace_56 ks w i a1 post V → ST G ks ad V (mA ks ad sz) s.heap H locs → lv_has ls 3 [(0, .ref (ad 8 w i))] → W p l e ({ frames := 0, cells := 0, slots := 0, locals := 0 } : Room) s m args below meth c H locs 0 0 (MQ below (mQv post G ks ad sz) args s 0 0 (mA ks ad sz)) (F0 m 56 ls []) := by
    intro V H locs ls h hS hl
    unfold wb_X3_dropPlace_56 at h
    refine lv_aload_n hC.1 hC.2.1 dX3_dropPlace_56 rfl (lv_at hl 0 rfl) ?_
    refine lv_dup hC.1 hC.2.1 dX3_dropPlace_57 rfl ?_
    obtain ⟨hk1, h⟩ := h
    refine gf_8_1 hC hS hk1 wq_672 dX3_dropPlace_58 ?_
    refine lv_iconst (v := 1) hC.1 hC.2.1 dX3_dropPlace_61 (by decide) ?_
    refine lv_isub hC.1 hC.2.1 dX3_dropPlace_62 ?_
    refine pf_8_1 hC hS hk1 wq_672 dX3_dropPlace_63 (fun H locs hS => ?_)
    obtain ⟨V2, eV2⟩ : ∃ z : VS, z = vup V 8 w i 1 0 ((V 8 w i 1 0) - 1) := ⟨_, rfl⟩
    rw [← eV2] at hS
    have h := h V2 eV2
    exact g_vret hC hr hlk hS h dX3_dropPlace_66
  have kT15 : ∀ (x2 : Int32) (V : VS) (H : Heap) (locs : List Loc) (ls : Array Slot), wl_X3_dropPlace_15 ks w i a1 post x2 V → ST G ks ad V (mA ks ad sz) s.heap H locs → lv_has ls 3 [(0, .ref (ad 8 w i)), (2, .int x2)] → W p l e ({ frames := 0, cells := 0, slots := 0, locals := 0 } : Room) s m args below meth c H locs 0 0 (MQ below (mQv post G ks ad sz) args s 0 0 (mA ks ad sz)) (F0 m 15 ls []) := by
    intro x2 V H locs ls h hS hl
    obtain ⟨J, ⟨n, hJ⟩, hb⟩ := h
    induction n using Nat.strongRecOn generalizing x2 V H locs ls with
    | _ n ih =>
      have h := hb n x2 V hJ
      obtain ⟨B15, eB⟩ : ∃ z : Int32 → VS → Prop, z = (fun x2 V => ∃ n', n' < n ∧ J n' x2 V) := ⟨_, rfl⟩
      rw [← eB] at h
      have kB15 : ∀ (x2 : Int32) (V : VS) (H : Heap) (locs : List Loc) (ls : Array Slot), B15 x2 V → ST G ks ad V (mA ks ad sz) s.heap H locs → lv_has ls 3 [(0, .ref (ad 8 w i)), (2, .int x2)] → W p l e ({ frames := 0, cells := 0, slots := 0, locals := 0 } : Room) s m args below meth c H locs 0 0 (MQ below (mQv post G ks ad sz) args s 0 0 (mA ks ad sz)) (F0 m 15 ls []) := by
        intro x2 V H locs ls h hS hl
        rw [eB] at h
        obtain ⟨n', hn, hJ'⟩ := h
        exact ih n' hn _ _ _ _ _ hS hl hJ'
      clear ih hJ hb eB
      unfold wk_X3_dropPlace_15 at h
      refine lv_iload_n hC.1 hC.2.1 dX3_dropPlace_15 rfl (lv_at hl 1 rfl) ?_
      refine lv_iconst (v := 1) hC.1 hC.2.1 dX3_dropPlace_16 (by decide) ?_
      refine lv_iadd hC.1 hC.2.1 dX3_dropPlace_17 ?_
      refine lv_aload_n hC.1 hC.2.1 dX3_dropPlace_18 rfl (lv_at hl 0 rfl) ?_
      obtain ⟨hk3, h⟩ := h
      refine gf_8_1 hC hS hk3 wq_672 dX3_dropPlace_19 ?_
      refine lv_icmp_ge (tgt := 56) hC.1 hC.2.1 dX3_dropPlace_22 (by decide) (fun c10 => ?_) (fun c10 => ?_)
      · have h := h.1 c10
        exact kT56 _ _ _ _ h hS (lv_sub hl [0] rfl)
      · have h := h.2 c10
        refine lv_iload_n hC.1 hC.2.1 dX3_dropPlace_25 rfl (lv_at hl 1 rfl) ?_
        refine lv_iconst (v := 1) hC.1 hC.2.1 dX3_dropPlace_26 (by decide) ?_
        refine lv_iadd hC.1 hC.2.1 dX3_dropPlace_27 ?_
        refine lv_aload_n hC.1 hC.2.1 dX3_dropPlace_28 rfl (lv_at hl 0 rfl) ?_
        refine gf_8_0 hC hS hk3 wq_671 dX3_dropPlace_29 ?_
        obtain ⟨hk4, h⟩ := h
        refine g_alen hC hS hk4 (by decide) dX3_dropPlace_32 ?_
        refine W.eq (g2 := F0 m 33 ls [.int 10, .int (x2 + 1)]) rfl ?_
        refine lv_icmp_ge (tgt := 56) hC.1 hC.2.1 dX3_dropPlace_33 (by decide) (fun c9 => ?_) (fun c9 => ?_)
        · have h := h.1 c9
          exact kT56 _ _ _ _ h hS (lv_sub hl [0] rfl)
        · have h := h.2 c9
          refine lv_aload_n hC.1 hC.2.1 dX3_dropPlace_36 rfl (lv_at hl 0 rfl) ?_
          refine gf_8_0 hC hS hk3 wq_671 dX3_dropPlace_37 ?_
          refine lv_iload_n hC.1 hC.2.1 dX3_dropPlace_40 rfl (lv_at hl 1 rfl) ?_
          refine lv_aload_n hC.1 hC.2.1 dX3_dropPlace_41 rfl (lv_at hl 0 rfl) ?_
          refine gf_8_0 hC hS hk3 wq_671 dX3_dropPlace_42 ?_
          refine lv_iload_n hC.1 hC.2.1 dX3_dropPlace_45 rfl (lv_at hl 1 rfl) ?_
          refine lv_iconst (v := 1) hC.1 hC.2.1 dX3_dropPlace_46 (by decide) ?_
          refine lv_iadd hC.1 hC.2.1 dX3_dropPlace_47 ?_
          obtain ⟨hx5, h⟩ := h
          refine g_iald hC hS hk4 (by decide) hx5 dX3_dropPlace_48 ?_
          obtain ⟨hx6, h⟩ := h
          refine g_iast hC hS hk4 (by decide) hx6 dX3_dropPlace_49 (fun H locs hS => ?_)
          obtain ⟨V7, eV7⟩ : ∃ z : VS, z = vup V 9 w i 0 x2.toNatClampNeg (V 9 w i 0 (x2 + 1).toNatClampNeg) := ⟨_, rfl⟩
          rw [← eV7] at hS
          have h := h V7 eV7
          obtain ⟨y8, ey8⟩ : ∃ z : Int32, z = x2 + 1 := ⟨_, rfl⟩
          have h := h y8 ey8
          refine lv_iinc (v := y8) (lv' := [(2, .int y8), (0, .ref (ad 8 w i))]) hC.1 hC.2.1 dX3_dropPlace_50 hl (k := 1) rfl (by rw [ey8]; rfl) (by decide) rfl (fun ls hl => ?_)
          refine lv_goto (tgt := 15) hC.1 hC.2.1 dX3_dropPlace_53 (by decide) ?_
          exact kB15 _ _ _ _ _ h hS (lv_sub hl [1, 0] rfl)
  refine lv_iload_n hC.1 hC.2.1 dX3_dropPlace_0 rfl (lv_at hl 1 rfl) ?_
  refine lv_if_lt (tgt := 12) hC.1 hC.2.1 dX3_dropPlace_1 (by decide) (fun c13 => ?_) (fun c13 => ?_)
  · have h := h.1 c13
    exact g_vret hC hr hlk hS h dX3_dropPlace_12
  · have h := h.2 c13
    refine lv_iload_n hC.1 hC.2.1 dX3_dropPlace_4 rfl (lv_at hl 1 rfl) ?_
    refine lv_aload_n hC.1 hC.2.1 dX3_dropPlace_5 rfl (lv_at hl 0 rfl) ?_
    obtain ⟨hk11, h⟩ := h
    refine gf_8_1 hC hS hk11 wq_672 dX3_dropPlace_6 ?_
    refine lv_icmp_lt (tgt := 13) hC.1 hC.2.1 dX3_dropPlace_9 (by decide) (fun c12 => ?_) (fun c12 => ?_)
    · have h := h.1 c12
      refine lv_iload_n hC.1 hC.2.1 dX3_dropPlace_13 rfl (lv_at hl 1 rfl) ?_
      refine lv_istore_n (lv' := [(2, .int a1), (0, .ref (ad 8 w i)), (1, .int a1)]) hC.1 hC.2.1 dX3_dropPlace_14 rfl hl (by decide) rfl (fun ls hl => ?_)
      exact kT15 _ _ _ _ _ h hS (lv_sub hl [1, 0] rfl)
    · have h := h.2 c12
      exact g_vret hC hr hlk hS h dX3_dropPlace_12
def wk_X8_copyRow_2 (ks : List KY) (k0 w0 i0 k1 w1 i1 : Nat) (post : VS → Prop) (B2 : Int32 → VS → Prop) (x2 : Int32) (V : VS) : Prop := ((k0, w0, i0) ∈ ks ∧ 0 < aLen k0 ∧ ((nI (aLen k0)) ≤ x2 → (post V)) ∧ (¬ ((nI (aLen k0)) ≤ x2) → ((k1, w1, i1) ∈ ks ∧ 0 < aLen k1 ∧ ((nI (aLen k1)) ≤ x2 → (post V)) ∧ (¬ ((nI (aLen k1)) ≤ x2) → (vp_in x2 (aLen k0) ∧ vp_in x2 (aLen k1) ∧ ∀ V7 : VS, V7 = vup V k1 w1 i1 0 x2.toNatClampNeg (V k0 w0 i0 0 x2.toNatClampNeg) → ∀ y8 : Int32, y8 = x2 + 1 → B2 y8 V7)))))
def wl_X8_copyRow_2 (ks : List KY) (k0 w0 i0 k1 w1 i1 : Nat) (post : VS → Prop) (x2 : Int32) (V : VS) : Prop := ∃ J : Nat → Int32 → VS → Prop, (∃ n, J n x2 V) ∧ ∀ (n : Nat) (x2 : Int32) (V : VS), J n x2 V → wk_X8_copyRow_2 ks k0 w0 i0 k1 w1 i1 post (fun x2 V => ∃ n', n' < n ∧ J n' x2 V) x2 V
def wp_X8_copyRow (ks : List KY) (k0 w0 i0 k1 w1 i1 : Nat) (V : VS) (post : VS → Prop) : Prop := (wl_X8_copyRow_2 ks k0 w0 i0 k1 w1 i1 post 0 V)
set_option maxHeartbeats 4000000 in
set_option maxRecDepth 100000 in
theorem c_X8_copyRow (l : Launch) (G : GG) (ks : List KY) (ad : AD) (k0 : Nat) (w0 : Nat) (i0 : Nat) (k1 : Nat) (w1 : Nat) (i1 : Nat) (V : VS) (post : VS → Prop) (h : wp_X8_copyRow ks k0 w0 i0 k1 w1 i1 V post) (sz : Nat) : Met l yX8_copyRow (ws_ yX8_copyRow cX8_copyRow 3 none) ({ frames := 0, cells := 0, slots := 0, locals := 0 }) (mPc [.ref (ad k0 w0 i0), .ref (ad k1 w1 i1)] G ks ad V sz) (mQv post G ks ad sz) 0 0 (mA ks ad sz) := by
  refine g_met (own := RX8) (by decide) rfl (Nat.le_of_ble_eq_true rfl) ?_
  intro p e s m args below meth c ls hC hsz hr hlk hin hS ha hl
  have hl : lv_has ls 3 [(0, .ref (ad k0 w0 i0)), (1, .ref (ad k1 w1 i1))] := hl
  unfold wp_X8_copyRow at h
  have kT2 : ∀ (x2 : Int32) (V : VS) (H : Heap) (locs : List Loc) (ls : Array Slot), wl_X8_copyRow_2 ks k0 w0 i0 k1 w1 i1 post x2 V → ST G ks ad V (mA ks ad sz) s.heap H locs → lv_has ls 3 [(0, .ref (ad k0 w0 i0)), (1, .ref (ad k1 w1 i1)), (2, .int x2)] → W p l e ({ frames := 0, cells := 0, slots := 0, locals := 0 } : Room) s m args below meth c H locs 0 0 (MQ below (mQv post G ks ad sz) args s 0 0 (mA ks ad sz)) (F0 m 2 ls []) := by
    intro x2 V H locs ls h hS hl
    obtain ⟨J, ⟨n, hJ⟩, hb⟩ := h
    induction n using Nat.strongRecOn generalizing x2 V H locs ls with
    | _ n ih =>
      have h := hb n x2 V hJ
      obtain ⟨B2, eB⟩ : ∃ z : Int32 → VS → Prop, z = (fun x2 V => ∃ n', n' < n ∧ J n' x2 V) := ⟨_, rfl⟩
      rw [← eB] at h
      have kB2 : ∀ (x2 : Int32) (V : VS) (H : Heap) (locs : List Loc) (ls : Array Slot), B2 x2 V → ST G ks ad V (mA ks ad sz) s.heap H locs → lv_has ls 3 [(0, .ref (ad k0 w0 i0)), (1, .ref (ad k1 w1 i1)), (2, .int x2)] → W p l e ({ frames := 0, cells := 0, slots := 0, locals := 0 } : Room) s m args below meth c H locs 0 0 (MQ below (mQv post G ks ad sz) args s 0 0 (mA ks ad sz)) (F0 m 2 ls []) := by
        intro x2 V H locs ls h hS hl
        rw [eB] at h
        obtain ⟨n', hn, hJ'⟩ := h
        exact ih n' hn _ _ _ _ _ hS hl hJ'
      clear ih hJ hb eB
      unfold wk_X8_copyRow_2 at h
      refine lv_iload_n hC.1 hC.2.1 dX8_copyRow_2 rfl (lv_at hl 2 rfl) ?_
      refine lv_aload_n hC.1 hC.2.1 dX8_copyRow_3 rfl (lv_at hl 0 rfl) ?_
      obtain ⟨hk1, h⟩ := h
      obtain ⟨ha2, h⟩ := h
      refine g_alen hC hS hk1 ha2 dX8_copyRow_4 ?_
      refine lv_icmp_ge (tgt := 26) hC.1 hC.2.1 dX8_copyRow_5 (by decide) (fun c10 => ?_) (fun c10 => ?_)
      · have h := h.1 c10
        exact g_vret hC hr hlk hS h dX8_copyRow_26
      · have h := h.2 c10
        refine lv_iload_n hC.1 hC.2.1 dX8_copyRow_8 rfl (lv_at hl 2 rfl) ?_
        refine lv_aload_n hC.1 hC.2.1 dX8_copyRow_9 rfl (lv_at hl 1 rfl) ?_
        obtain ⟨hk3, h⟩ := h
        obtain ⟨ha4, h⟩ := h
        refine g_alen hC hS hk3 ha4 dX8_copyRow_10 ?_
        refine lv_icmp_ge (tgt := 26) hC.1 hC.2.1 dX8_copyRow_11 (by decide) (fun c9 => ?_) (fun c9 => ?_)
        · have h := h.1 c9
          exact g_vret hC hr hlk hS h dX8_copyRow_26
        · have h := h.2 c9
          refine lv_aload_n hC.1 hC.2.1 dX8_copyRow_14 rfl (lv_at hl 1 rfl) ?_
          refine lv_iload_n hC.1 hC.2.1 dX8_copyRow_15 rfl (lv_at hl 2 rfl) ?_
          refine lv_aload_n hC.1 hC.2.1 dX8_copyRow_16 rfl (lv_at hl 0 rfl) ?_
          refine lv_iload_n hC.1 hC.2.1 dX8_copyRow_17 rfl (lv_at hl 2 rfl) ?_
          obtain ⟨hx5, h⟩ := h
          refine g_iald hC hS hk1 ha2 hx5 dX8_copyRow_18 ?_
          obtain ⟨hx6, h⟩ := h
          refine g_iast hC hS hk3 ha4 hx6 dX8_copyRow_19 (fun H locs hS => ?_)
          obtain ⟨V7, eV7⟩ : ∃ z : VS, z = vup V k1 w1 i1 0 x2.toNatClampNeg (V k0 w0 i0 0 x2.toNatClampNeg) := ⟨_, rfl⟩
          rw [← eV7] at hS
          have h := h V7 eV7
          obtain ⟨y8, ey8⟩ : ∃ z : Int32, z = x2 + 1 := ⟨_, rfl⟩
          have h := h y8 ey8
          refine lv_iinc (v := y8) (lv' := [(2, .int y8), (0, .ref (ad k0 w0 i0)), (1, .ref (ad k1 w1 i1))]) hC.1 hC.2.1 dX8_copyRow_20 hl (k := 2) rfl (by rw [ey8]; rfl) (by decide) rfl (fun ls hl => ?_)
          refine lv_goto (tgt := 2) hC.1 hC.2.1 dX8_copyRow_23 (by decide) ?_
          exact kB2 _ _ _ _ _ h hS (lv_sub hl [1, 2, 0] rfl)
  refine lv_iconst (v := 0) hC.1 hC.2.1 dX8_copyRow_0 (by decide) ?_
  refine lv_istore_n (lv' := [(2, .int 0), (0, .ref (ad k0 w0 i0)), (1, .ref (ad k1 w1 i1))]) hC.1 hC.2.1 dX8_copyRow_1 rfl hl (by decide) rfl (fun ls hl => ?_)
  exact kT2 _ _ _ _ _ h hS (lv_sub hl [1, 2, 0] rfl)
def wp_X8_isWithin (ks : List KY) (a0 : Int32) (a1 : Int32) (a2 : Int32) (V : VS) (post : Int32 → VS → Prop) : Prop := ((a0 < a1 → (post 0 V)) ∧ (¬ (a0 < a1) → ((a2 < a0 → (post 0 V)) ∧ (¬ (a2 < a0) → (post 1 V)))))
set_option maxHeartbeats 4000000 in
set_option maxRecDepth 100000 in
theorem c_X8_isWithin (l : Launch) (G : GG) (ks : List KY) (ad : AD) (a0 : Int32) (a1 : Int32) (a2 : Int32) (V : VS) (post : Int32 → VS → Prop) (h : wp_X8_isWithin ks a0 a1 a2 V post) (sz : Nat) : Met l yX8_isWithin (ws_ yX8_isWithin cX8_isWithin 3 (some .boolean)) ({ frames := 0, cells := 0, slots := 0, locals := 0 }) (mPc [.int a0, .int a1, .int a2] G ks ad V sz) (mQi post G ks ad sz) 0 0 (mA ks ad sz) := by
  refine g_met (own := RX8) (by decide) rfl (Nat.le_of_ble_eq_true rfl) ?_
  intro p e s m args below meth c ls hC hsz hr hlk hin hS ha hl
  have hl : lv_has ls 3 [(0, .int a0), (1, .int a1), (2, .int a2)] := hl
  unfold wp_X8_isWithin at h
  refine lv_iload_n hC.1 hC.2.1 dX8_isWithin_0 rfl (lv_at hl 0 rfl) ?_
  refine lv_iload_n hC.1 hC.2.1 dX8_isWithin_1 rfl (lv_at hl 1 rfl) ?_
  refine lv_icmp_lt (tgt := 14) hC.1 hC.2.1 dX8_isWithin_2 (by decide) (fun c2 => ?_) (fun c2 => ?_)
  · have h := h.1 c2
    refine lv_iconst (v := 0) hC.1 hC.2.1 dX8_isWithin_14 (by decide) ?_
    exact g_zret hC hr hlk hS (by decide) h dX8_isWithin_15
  · have h := h.2 c2
    refine lv_iload_n hC.1 hC.2.1 dX8_isWithin_5 rfl (lv_at hl 0 rfl) ?_
    refine lv_iload_n hC.1 hC.2.1 dX8_isWithin_6 rfl (lv_at hl 2 rfl) ?_
    refine lv_icmp_gt (tgt := 14) hC.1 hC.2.1 dX8_isWithin_7 (by decide) (fun c1 => ?_) (fun c1 => ?_)
    · have h := h.1 c1
      refine lv_iconst (v := 0) hC.1 hC.2.1 dX8_isWithin_14 (by decide) ?_
      exact g_zret hC hr hlk hS (by decide) h dX8_isWithin_15
    · have h := h.2 c1
      refine lv_iconst (v := 1) hC.1 hC.2.1 dX8_isWithin_10 (by decide) ?_
      refine lv_goto (tgt := 15) hC.1 hC.2.1 dX8_isWithin_11 (by decide) ?_
      exact g_zret hC hr hlk hS (by decide) h dX8_isWithin_15
def wp_X8_mix (ks : List KY) (a0 : Int64) (a2 : Int64) (V : VS) (post : Int64 → VS → Prop) : Prop := (post ((a0 * 31) + a2) V)
set_option maxHeartbeats 4000000 in
set_option maxRecDepth 100000 in
theorem c_X8_mix (l : Launch) (G : GG) (ks : List KY) (ad : AD) (a0 : Int64) (a2 : Int64) (V : VS) (post : Int64 → VS → Prop) (h : wp_X8_mix ks a0 a2 V post) (sz : Nat) : Met l yX8_mix (ws_ yX8_mix cX8_mix 4 (some .long)) ({ frames := 0, cells := 0, slots := 0, locals := 0 }) (mPc [.long a0, .long a2] G ks ad V sz) (mQl post G ks ad sz) 0 0 (mA ks ad sz) := by
  refine g_met (own := RX8) (by decide) rfl (Nat.le_of_ble_eq_true rfl) ?_
  intro p e s m args below meth c ls hC hsz hr hlk hin hS ha hl
  have hl : lv_has ls 4 [(0, .long a0), (2, .long a2)] := hl
  unfold wp_X8_mix at h
  refine lv_lload_n hC.1 hC.2.1 dX8_mix_0 rfl (lv_at hl 0 rfl) ?_
  refine lv_ldc2 hC.1 hC.2.1 hC.2.2.2.1 (hC.2.2.2.2.1 _ wq_241) dX8_mix_1 ?_
  refine lv_lmul hC.1 hC.2.1 dX8_mix_4 ?_
  refine lv_lload_n hC.1 hC.2.1 dX8_mix_5 rfl (lv_at hl 1 rfl) ?_
  refine lv_ladd hC.1 hC.2.1 dX8_mix_6 ?_
  exact g_lret hC hr hlk hS h dX8_mix_7
