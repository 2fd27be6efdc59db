def wp_X9_copy (ks : List KY) (w k1 w1 i1 k2 w2 i2 : Nat) (V : VS) (post : VS → Prop) : Prop := ((k1, w1, i1) ∈ ks ∧ 0 < aLen k1 ∧ (k2, w2, i2) ∈ ks ∧ 0 < aLen k2 ∧ (¬ (0 : Int32) < 0 ∧ ¬ (0 : Int32) < 0 ∧ ¬ (nI (aLen k1)) < 0 ∧ (0 : Int32).toNatClampNeg + (nI (aLen k1)).toNatClampNeg ≤ aLen k1 ∧ (0 : Int32).toNatClampNeg + (nI (aLen k1)).toNatClampNeg ≤ aLen k2) ∧ ∀ V6 : VS, V6 = vrow V k2 w2 i2 (va_cpy (V k1 w1 i1 0) (V k2 w2 i2 0) (0 : Int32).toNatClampNeg (0 : Int32).toNatClampNeg (nI (aLen k1)).toNatClampNeg) → post V6)
set_option maxHeartbeats 4000000 in
set_option maxRecDepth 100000 in
theorem c_X9_copy (l : Launch) (G : GG) (ks : List KY) (ad : AD) (w : Nat) (k1 : Nat) (w1 : Nat) (i1 : Nat) (k2 : Nat) (w2 : Nat) (i2 : Nat) (V : VS) (post : VS → Prop) (h : wp_X9_copy ks w k1 w1 i1 k2 w2 i2 V post) (sz : Nat) : Met l yX9_copy (ws_ yX9_copy cX9_copy 3 none) ({ frames := 1, cells := 0, slots := 0, locals := 40 }) (mPc [.ref (ad 16 w 0), .ref (ad k1 w1 i1), .ref (ad k2 w2 i2)] G ks ad V sz) (mQv post G ks ad sz) 0 0 (mA ks ad sz) := by
  refine g_met (own := RX9) (by decide) rfl (Nat.le_of_ble_eq_true rfl) ?_
  intro p e s m args below meth c ls hC hsz hr hlk hin hS ha hl
  have hl : lv_has ls 3 [(0, .ref (ad 16 w 0)), (1, .ref (ad k1 w1 i1)), (2, .ref (ad k2 w2 i2))] := hl
  unfold wp_X9_copy at h
  refine lv_aload_n hC.1 hC.2.1 dX9_copy_0 rfl (lv_at hl 1 rfl) ?_
  refine lv_iconst (v := 0) hC.1 hC.2.1 dX9_copy_1 (by decide) ?_
  refine lv_aload_n hC.1 hC.2.1 dX9_copy_2 rfl (lv_at hl 2 rfl) ?_
  refine lv_iconst (v := 0) hC.1 hC.2.1 dX9_copy_3 (by decide) ?_
  refine lv_aload_n hC.1 hC.2.1 dX9_copy_4 rfl (lv_at hl 1 rfl) ?_
  obtain ⟨hk1, h⟩ := h
  obtain ⟨ha2, h⟩ := h
  refine g_alen hC hS hk1 ha2 dX9_copy_5 ?_
  obtain ⟨hk3, h⟩ := h
  obtain ⟨ha4, h⟩ := h
  obtain ⟨hq5, h⟩ := h
  refine g_acopy hC hS hl hk1 hk3 ha2 ha4 hq5.1 hq5.2.1 hq5.2.2.1 hq5.2.2.2.1 hq5.2.2.2.2 wq_1275 wq_481 wq_480 wq_56 ⟨Nat.le_of_ble_eq_true rfl, Nat.le_of_ble_eq_true rfl⟩ dX9_copy_6 (fun H locs hS => ?_)
  obtain ⟨V6, eV6⟩ : ∃ z : VS, z = vrow V k2 w2 i2 (va_cpy (V k1 w1 i1 0) (V k2 w2 i2 0) (0 : Int32).toNatClampNeg (0 : Int32).toNatClampNeg (nI (aLen k1)).toNatClampNeg) := ⟨_, rfl⟩
  rw [← eV6] at hS
  have h := h V6 eV6
  exact g_vret hC hr hlk hS h dX9_copy_9
def wp_X9_become (ks : List KY) (w w1 : Nat) (V : VS) (post : VS → Prop) : Prop := ((16, w1, 0) ∈ ks ∧ (16, w, 0) ∈ ks ∧ ∀ V3 : VS, V3 = vup V 16 w 0 0 0 (V 16 w1 0 0 0) → ∀ V4 : VS, V4 = vup V3 16 w 0 1 0 (V3 16 w1 0 1 0) → ∀ V5 : VS, V5 = vup V4 16 w 0 2 0 (V4 16 w1 0 2 0) → ∀ V6 : VS, V6 = vup V5 16 w 0 5 0 (V5 16 w1 0 5 0) → wp_X9_copy ks w 22 w1 0 22 w 0 V6 (fun V7 => (wp_X9_copy ks w 23 w1 0 23 w 0 V7 (fun V8 => (wp_X9_copy ks w 24 w1 0 24 w 0 V8 (fun V9 => (wp_X9_copy ks w 25 w1 0 25 w 0 V9 (fun V10 => (wp_X9_copy ks w 26 w1 0 26 w 0 V10 (fun V11 => (wp_X9_copy ks w 27 w1 0 27 w 0 V11 (fun V12 => (wp_X9_copy ks w 28 w1 0 28 w 0 V12 (fun V13 => (wp_X9_copy ks w 29 w1 0 29 w 0 V13 (fun V14 => (wp_X9_copy ks w 30 w1 0 30 w 0 V14 (fun V15 => (wp_X9_copy ks w 31 w1 0 31 w 0 V15 (fun V16 => (wp_X9_copy ks w 32 w1 0 32 w 0 V16 (fun V17 => (wp_X9_copy ks w 33 w1 0 33 w 0 V17 (fun V18 => (post V18)))))))))))))))))))))))))
set_option maxHeartbeats 4000000 in
set_option maxRecDepth 100000 in
theorem c_X9_become (l : Launch) (G : GG) (ks : List KY) (ad : AD) (w : Nat) (w1 : Nat) (V : VS) (post : VS → Prop) (h : wp_X9_become ks w w1 V post) (sz : Nat) : Met l yX9_become (ws_ yX9_become cX9_become 2 none) ({ frames := 2, cells := 0, slots := 0, locals := 62 }) (mPc [.ref (ad 16 w 0), .ref (ad 16 w1 0)] G ks ad V sz) (mQv post G ks ad sz) 0 0 (mA ks ad sz) := by
  refine g_met (own := RX9) (by decide) rfl (Nat.le_of_ble_eq_true rfl) ?_
  intro p e s m args below meth c ls hC hsz hr hlk hin hS ha hl
  have hl : lv_has ls 2 [(0, .ref (ad 16 w 0)), (1, .ref (ad 16 w1 0))] := hl
  unfold wp_X9_become at h
  refine lv_aload_n hC.1 hC.2.1 dX9_become_0 rfl (lv_at hl 0 rfl) ?_
  refine lv_aload_n hC.1 hC.2.1 dX9_become_1 rfl (lv_at hl 1 rfl) ?_
  obtain ⟨hk1, h⟩ := h
  refine gf_16_0 hC hS hk1 wq_976 dX9_become_2 ?_
  obtain ⟨hk2, h⟩ := h
  refine pf_16_0 hC hS hk2 wq_976 dX9_become_5 (fun H locs hS => ?_)
  obtain ⟨V3, eV3⟩ : ∃ z : VS, z = vup V 16 w 0 0 0 (V 16 w1 0 0 0) := ⟨_, rfl⟩
  rw [← eV3] at hS
  have h := h V3 eV3
  refine lv_aload_n hC.1 hC.2.1 dX9_become_8 rfl (lv_at hl 0 rfl) ?_
  refine lv_aload_n hC.1 hC.2.1 dX9_become_9 rfl (lv_at hl 1 rfl) ?_
  refine gf_16_1 hC hS hk1 wq_978 dX9_become_10 ?_
  refine pf_16_1 hC hS hk2 wq_978 dX9_become_13 (fun H locs hS => ?_)
  obtain ⟨V4, eV4⟩ : ∃ z : VS, z = vup V3 16 w 0 1 0 (V3 16 w1 0 1 0) := ⟨_, rfl⟩
  rw [← eV4] at hS
  have h := h V4 eV4
  refine lv_aload_n hC.1 hC.2.1 dX9_become_16 rfl (lv_at hl 0 rfl) ?_
  refine lv_aload_n hC.1 hC.2.1 dX9_become_17 rfl (lv_at hl 1 rfl) ?_
  refine gf_16_2 hC hS hk1 wq_980 dX9_become_18 ?_
  refine pf_16_2 hC hS hk2 wq_980 dX9_become_21 (fun H locs hS => ?_)
  obtain ⟨V5, eV5⟩ : ∃ z : VS, z = vup V4 16 w 0 2 0 (V4 16 w1 0 2 0) := ⟨_, rfl⟩
  rw [← eV5] at hS
  have h := h V5 eV5
  refine lv_aload_n hC.1 hC.2.1 dX9_become_24 rfl (lv_at hl 0 rfl) ?_
  refine lv_aload_n hC.1 hC.2.1 dX9_become_25 rfl (lv_at hl 1 rfl) ?_
  refine gf_16_5 hC hS hk1 wq_986 dX9_become_26 ?_
  refine pf_16_5 hC hS hk2 wq_986 dX9_become_29 (fun H locs hS => ?_)
  obtain ⟨V6, eV6⟩ : ∃ z : VS, z = vup V5 16 w 0 5 0 (V5 16 w1 0 5 0) := ⟨_, rfl⟩
  rw [← eV6] at hS
  have h := h V6 eV6
  refine lv_aload_n hC.1 hC.2.1 dX9_become_32 rfl (lv_at hl 0 rfl) ?_
  refine lv_aload_n hC.1 hC.2.1 dX9_become_33 rfl (lv_at hl 1 rfl) ?_
  refine gf_16_3 hC hS hk1 wq_982 dX9_become_34 ?_
  refine lv_aload_n hC.1 hC.2.1 dX9_become_37 rfl (lv_at hl 0 rfl) ?_
  refine gf_16_3 hC hS hk2 wq_982 dX9_become_38 ?_
  refine g_callv0 hS (g_runV (n := 2) (rest := []) (As := [.ref (ad 22 w1 0), .ref (ad 22 w 0)]) (C := RX9) (T := TX9) (N := 17) hC hS hk2 rfl rfl (c_X9_copy l G ks ad w 22 w1 0 22 w 0 V6 _ h _) (gI wq_1271 wq_1273 wq_37 wq_47 wq_1274) rfl ⟨⟨by decide +kernel, by decide +kernel, by decide +kernel⟩, rfl, rfl, Nat.le_of_ble_eq_true rfl, Nat.le_of_ble_eq_true rfl⟩ rfl hl rfl (Nat.le_of_ble_eq_true rfl) dX9_become_41 ⟨Nat.le_of_ble_eq_true rfl, Nat.le_of_ble_eq_true rfl⟩) (fun V7 H locs h hS => ?_)
  refine lv_aload_n hC.1 hC.2.1 dX9_become_44 rfl (lv_at hl 0 rfl) ?_
  refine lv_aload_n hC.1 hC.2.1 dX9_become_45 rfl (lv_at hl 1 rfl) ?_
  refine gf_16_4 hC hS hk1 wq_984 dX9_become_46 ?_
  refine lv_aload_n hC.1 hC.2.1 dX9_become_49 rfl (lv_at hl 0 rfl) ?_
  refine gf_16_4 hC hS hk2 wq_984 dX9_become_50 ?_
  refine g_callv0 hS (g_runV (n := 2) (rest := []) (As := [.ref (ad 23 w1 0), .ref (ad 23 w 0)]) (C := RX9) (T := TX9) (N := 17) hC hS hk2 rfl rfl (c_X9_copy l G ks ad w 23 w1 0 23 w 0 V7 _ h _) (gI wq_1271 wq_1273 wq_37 wq_47 wq_1274) rfl ⟨⟨by decide +kernel, by decide +kernel, by decide +kernel⟩, rfl, rfl, Nat.le_of_ble_eq_true rfl, Nat.le_of_ble_eq_true rfl⟩ rfl hl rfl (Nat.le_of_ble_eq_true rfl) dX9_become_53 ⟨Nat.le_of_ble_eq_true rfl, Nat.le_of_ble_eq_true rfl⟩) (fun V8 H locs h hS => ?_)
  refine lv_aload_n hC.1 hC.2.1 dX9_become_56 rfl (lv_at hl 0 rfl) ?_
  refine lv_aload_n hC.1 hC.2.1 dX9_become_57 rfl (lv_at hl 1 rfl) ?_
  refine gf_16_6 hC hS hk1 wq_988 dX9_become_58 ?_
  refine lv_aload_n hC.1 hC.2.1 dX9_become_61 rfl (lv_at hl 0 rfl) ?_
  refine gf_16_6 hC hS hk2 wq_988 dX9_become_62 ?_
  refine g_callv0 hS (g_runV (n := 2) (rest := []) (As := [.ref (ad 24 w1 0), .ref (ad 24 w 0)]) (C := RX9) (T := TX9) (N := 17) hC hS hk2 rfl rfl (c_X9_copy l G ks ad w 24 w1 0 24 w 0 V8 _ h _) (gI wq_1271 wq_1273 wq_37 wq_47 wq_1274) rfl ⟨⟨by decide +kernel, by decide +kernel, by decide +kernel⟩, rfl, rfl, Nat.le_of_ble_eq_true rfl, Nat.le_of_ble_eq_true rfl⟩ rfl hl rfl (Nat.le_of_ble_eq_true rfl) dX9_become_65 ⟨Nat.le_of_ble_eq_true rfl, Nat.le_of_ble_eq_true rfl⟩) (fun V9 H locs h hS => ?_)
  refine lv_aload_n hC.1 hC.2.1 dX9_become_68 rfl (lv_at hl 0 rfl) ?_
  refine lv_aload_n hC.1 hC.2.1 dX9_become_69 rfl (lv_at hl 1 rfl) ?_
  refine gf_16_7 hC hS hk1 wq_990 dX9_become_70 ?_
  refine lv_aload_n hC.1 hC.2.1 dX9_become_73 rfl (lv_at hl 0 rfl) ?_
  refine gf_16_7 hC hS hk2 wq_990 dX9_become_74 ?_
  refine g_callv0 hS (g_runV (n := 2) (rest := []) (As := [.ref (ad 25 w1 0), .ref (ad 25 w 0)]) (C := RX9) (T := TX9) (N := 17) hC hS hk2 rfl rfl (c_X9_copy l G ks ad w 25 w1 0 25 w 0 V9 _ h _) (gI wq_1271 wq_1273 wq_37 wq_47 wq_1274) rfl ⟨⟨by decide +kernel, by decide +kernel, by decide +kernel⟩, rfl, rfl, Nat.le_of_ble_eq_true rfl, Nat.le_of_ble_eq_true rfl⟩ rfl hl rfl (Nat.le_of_ble_eq_true rfl) dX9_become_77 ⟨Nat.le_of_ble_eq_true rfl, Nat.le_of_ble_eq_true rfl⟩) (fun V10 H locs h hS => ?_)
  refine lv_aload_n hC.1 hC.2.1 dX9_become_80 rfl (lv_at hl 0 rfl) ?_
  refine lv_aload_n hC.1 hC.2.1 dX9_become_81 rfl (lv_at hl 1 rfl) ?_
  refine gf_16_8 hC hS hk1 wq_992 dX9_become_82 ?_
  refine lv_aload_n hC.1 hC.2.1 dX9_become_85 rfl (lv_at hl 0 rfl) ?_
  refine gf_16_8 hC hS hk2 wq_992 dX9_become_86 ?_
  refine g_callv0 hS (g_runV (n := 2) (rest := []) (As := [.ref (ad 26 w1 0), .ref (ad 26 w 0)]) (C := RX9) (T := TX9) (N := 17) hC hS hk2 rfl rfl (c_X9_copy l G ks ad w 26 w1 0 26 w 0 V10 _ h _) (gI wq_1271 wq_1273 wq_37 wq_47 wq_1274) rfl ⟨⟨by decide +kernel, by decide +kernel, by decide +kernel⟩, rfl, rfl, Nat.le_of_ble_eq_true rfl, Nat.le_of_ble_eq_true rfl⟩ rfl hl rfl (Nat.le_of_ble_eq_true rfl) dX9_become_89 ⟨Nat.le_of_ble_eq_true rfl, Nat.le_of_ble_eq_true rfl⟩) (fun V11 H locs h hS => ?_)
  refine lv_aload_n hC.1 hC.2.1 dX9_become_92 rfl (lv_at hl 0 rfl) ?_
  refine lv_aload_n hC.1 hC.2.1 dX9_become_93 rfl (lv_at hl 1 rfl) ?_
  refine gf_16_9 hC hS hk1 wq_994 dX9_become_94 ?_
  refine lv_aload_n hC.1 hC.2.1 dX9_become_97 rfl (lv_at hl 0 rfl) ?_
  refine gf_16_9 hC hS hk2 wq_994 dX9_become_98 ?_
  refine g_callv0 hS (g_runV (n := 2) (rest := []) (As := [.ref (ad 27 w1 0), .ref (ad 27 w 0)]) (C := RX9) (T := TX9) (N := 17) hC hS hk2 rfl rfl (c_X9_copy l G ks ad w 27 w1 0 27 w 0 V11 _ h _) (gI wq_1271 wq_1273 wq_37 wq_47 wq_1274) rfl ⟨⟨by decide +kernel, by decide +kernel, by decide +kernel⟩, rfl, rfl, Nat.le_of_ble_eq_true rfl, Nat.le_of_ble_eq_true rfl⟩ rfl hl rfl (Nat.le_of_ble_eq_true rfl) dX9_become_101 ⟨Nat.le_of_ble_eq_true rfl, Nat.le_of_ble_eq_true rfl⟩) (fun V12 H locs h hS => ?_)
  refine lv_aload_n hC.1 hC.2.1 dX9_become_104 rfl (lv_at hl 0 rfl) ?_
  refine lv_aload_n hC.1 hC.2.1 dX9_become_105 rfl (lv_at hl 1 rfl) ?_
  refine gf_16_10 hC hS hk1 wq_996 dX9_become_106 ?_
  refine lv_aload_n hC.1 hC.2.1 dX9_become_109 rfl (lv_at hl 0 rfl) ?_
  refine gf_16_10 hC hS hk2 wq_996 dX9_become_110 ?_
  refine g_callv0 hS (g_runV (n := 2) (rest := []) (As := [.ref (ad 28 w1 0), .ref (ad 28 w 0)]) (C := RX9) (T := TX9) (N := 17) hC hS hk2 rfl rfl (c_X9_copy l G ks ad w 28 w1 0 28 w 0 V12 _ h _) (gI wq_1271 wq_1273 wq_37 wq_47 wq_1274) rfl ⟨⟨by decide +kernel, by decide +kernel, by decide +kernel⟩, rfl, rfl, Nat.le_of_ble_eq_true rfl, Nat.le_of_ble_eq_true rfl⟩ rfl hl rfl (Nat.le_of_ble_eq_true rfl) dX9_become_113 ⟨Nat.le_of_ble_eq_true rfl, Nat.le_of_ble_eq_true rfl⟩) (fun V13 H locs h hS => ?_)
  refine lv_aload_n hC.1 hC.2.1 dX9_become_116 rfl (lv_at hl 0 rfl) ?_
  refine lv_aload_n hC.1 hC.2.1 dX9_become_117 rfl (lv_at hl 1 rfl) ?_
  refine gf_16_11 hC hS hk1 wq_998 dX9_become_118 ?_
  refine lv_aload_n hC.1 hC.2.1 dX9_become_121 rfl (lv_at hl 0 rfl) ?_
  refine gf_16_11 hC hS hk2 wq_998 dX9_become_122 ?_
  refine g_callv0 hS (g_runV (n := 2) (rest := []) (As := [.ref (ad 29 w1 0), .ref (ad 29 w 0)]) (C := RX9) (T := TX9) (N := 17) hC hS hk2 rfl rfl (c_X9_copy l G ks ad w 29 w1 0 29 w 0 V13 _ h _) (gI wq_1271 wq_1273 wq_37 wq_47 wq_1274) rfl ⟨⟨by decide +kernel, by decide +kernel, by decide +kernel⟩, rfl, rfl, Nat.le_of_ble_eq_true rfl, Nat.le_of_ble_eq_true rfl⟩ rfl hl rfl (Nat.le_of_ble_eq_true rfl) dX9_become_125 ⟨Nat.le_of_ble_eq_true rfl, Nat.le_of_ble_eq_true rfl⟩) (fun V14 H locs h hS => ?_)
  refine lv_aload_n hC.1 hC.2.1 dX9_become_128 rfl (lv_at hl 0 rfl) ?_
  refine lv_aload_n hC.1 hC.2.1 dX9_become_129 rfl (lv_at hl 1 rfl) ?_
  refine gf_16_12 hC hS hk1 wq_1000 dX9_become_130 ?_
  refine lv_aload_n hC.1 hC.2.1 dX9_become_133 rfl (lv_at hl 0 rfl) ?_
  refine gf_16_12 hC hS hk2 wq_1000 dX9_become_134 ?_
  refine g_callv0 hS (g_runV (n := 2) (rest := []) (As := [.ref (ad 30 w1 0), .ref (ad 30 w 0)]) (C := RX9) (T := TX9) (N := 17) hC hS hk2 rfl rfl (c_X9_copy l G ks ad w 30 w1 0 30 w 0 V14 _ h _) (gI wq_1271 wq_1273 wq_37 wq_47 wq_1274) rfl ⟨⟨by decide +kernel, by decide +kernel, by decide +kernel⟩, rfl, rfl, Nat.le_of_ble_eq_true rfl, Nat.le_of_ble_eq_true rfl⟩ rfl hl rfl (Nat.le_of_ble_eq_true rfl) dX9_become_137 ⟨Nat.le_of_ble_eq_true rfl, Nat.le_of_ble_eq_true rfl⟩) (fun V15 H locs h hS => ?_)
  refine lv_aload_n hC.1 hC.2.1 dX9_become_140 rfl (lv_at hl 0 rfl) ?_
  refine lv_aload_n hC.1 hC.2.1 dX9_become_141 rfl (lv_at hl 1 rfl) ?_
  refine gf_16_13 hC hS hk1 wq_1002 dX9_become_142 ?_
  refine lv_aload_n hC.1 hC.2.1 dX9_become_145 rfl (lv_at hl 0 rfl) ?_
  refine gf_16_13 hC hS hk2 wq_1002 dX9_become_146 ?_
  refine g_callv0 hS (g_runV (n := 2) (rest := []) (As := [.ref (ad 31 w1 0), .ref (ad 31 w 0)]) (C := RX9) (T := TX9) (N := 17) hC hS hk2 rfl rfl (c_X9_copy l G ks ad w 31 w1 0 31 w 0 V15 _ h _) (gI wq_1271 wq_1273 wq_37 wq_47 wq_1274) rfl ⟨⟨by decide +kernel, by decide +kernel, by decide +kernel⟩, rfl, rfl, Nat.le_of_ble_eq_true rfl, Nat.le_of_ble_eq_true rfl⟩ rfl hl rfl (Nat.le_of_ble_eq_true rfl) dX9_become_149 ⟨Nat.le_of_ble_eq_true rfl, Nat.le_of_ble_eq_true rfl⟩) (fun V16 H locs h hS => ?_)
  refine lv_aload_n hC.1 hC.2.1 dX9_become_152 rfl (lv_at hl 0 rfl) ?_
  refine lv_aload_n hC.1 hC.2.1 dX9_become_153 rfl (lv_at hl 1 rfl) ?_
  refine gf_16_14 hC hS hk1 wq_1004 dX9_become_154 ?_
  refine lv_aload_n hC.1 hC.2.1 dX9_become_157 rfl (lv_at hl 0 rfl) ?_
  refine gf_16_14 hC hS hk2 wq_1004 dX9_become_158 ?_
  refine g_callv0 hS (g_runV (n := 2) (rest := []) (As := [.ref (ad 32 w1 0), .ref (ad 32 w 0)]) (C := RX9) (T := TX9) (N := 17) hC hS hk2 rfl rfl (c_X9_copy l G ks ad w 32 w1 0 32 w 0 V16 _ h _) (gI wq_1271 wq_1273 wq_37 wq_47 wq_1274) rfl ⟨⟨by decide +kernel, by decide +kernel, by decide +kernel⟩, rfl, rfl, Nat.le_of_ble_eq_true rfl, Nat.le_of_ble_eq_true rfl⟩ rfl hl rfl (Nat.le_of_ble_eq_true rfl) dX9_become_161 ⟨Nat.le_of_ble_eq_true rfl, Nat.le_of_ble_eq_true rfl⟩) (fun V17 H locs h hS => ?_)
  refine lv_aload_n hC.1 hC.2.1 dX9_become_164 rfl (lv_at hl 0 rfl) ?_
  refine lv_aload_n hC.1 hC.2.1 dX9_become_165 rfl (lv_at hl 1 rfl) ?_
  refine gf_16_15 hC hS hk1 wq_1006 dX9_become_166 ?_
  refine lv_aload_n hC.1 hC.2.1 dX9_become_169 rfl (lv_at hl 0 rfl) ?_
  refine gf_16_15 hC hS hk2 wq_1006 dX9_become_170 ?_
  refine g_callv0 hS (g_runV (n := 2) (rest := []) (As := [.ref (ad 33 w1 0), .ref (ad 33 w 0)]) (C := RX9) (T := TX9) (N := 17) hC hS hk2 rfl rfl (c_X9_copy l G ks ad w 33 w1 0 33 w 0 V17 _ h _) (gI wq_1271 wq_1273 wq_37 wq_47 wq_1274) rfl ⟨⟨by decide +kernel, by decide +kernel, by decide +kernel⟩, rfl, rfl, Nat.le_of_ble_eq_true rfl, Nat.le_of_ble_eq_true rfl⟩ rfl hl rfl (Nat.le_of_ble_eq_true rfl) dX9_become_173 ⟨Nat.le_of_ble_eq_true rfl, Nat.le_of_ble_eq_true rfl⟩) (fun V18 H locs h hS => ?_)
  exact g_vret hC hr hlk hS h dX9_become_176
def wp_X9_minutesOf (ks : List KY) (w : Nat) (a1 : Int32) (V : VS) (post : Int32 → VS → Prop) : Prop := ((16, w, 0) ∈ ks ∧ (22, w, 0) ∈ ks ∧ vp_in a1 16 ∧ ((V 22 w 0 0 a1.toNatClampNeg) ≤ 12 → ((15, 0, 0) ∈ ks ∧ (17, 0, 0) ∈ ks ∧ vp_in ((4 * a1) + 2) 64 ∧ post ((V 17 0 0 0 ((4 * a1) + 2).toNatClampNeg) + ((V 22 w 0 0 a1.toNatClampNeg) / 2)) V)) ∧ (¬ ((V 22 w 0 0 a1.toNatClampNeg) ≤ 12) → (post (-1) V)))
set_option maxHeartbeats 4000000 in
set_option maxRecDepth 100000 in
theorem c_X9_minutesOf (l : Launch) (G : GG) (ks : List KY) (ad : AD) (w : Nat) (a1 : Int32) (V : VS) (post : Int32 → VS → Prop) (h : wp_X9_minutesOf ks w a1 V post) (sz : Nat) : Met l yX9_minutesOf (ws_ yX9_minutesOf cX9_minutesOf 2 (some .int)) ({ frames := 0, cells := 0, slots := 0, locals := 0 }) (mPc [.ref (ad 16 w 0), .int a1] G ks ad V sz) (mQi post G ks ad sz) 0 0 (mA ks ad sz) := by
  refine g_met (own := RX9) (by decide) rfl (Nat.le_of_ble_eq_true rfl) ?_
  intro p e s m args below meth c ls hC hsz hr hlk hin hS ha hl
  have hl : lv_has ls 2 [(0, .ref (ad 16 w 0)), (1, .int a1)] := hl
  unfold wp_X9_minutesOf at h
  refine lv_aload_n hC.1 hC.2.1 dX9_minutesOf_0 rfl (lv_at hl 0 rfl) ?_
  obtain ⟨hk1, h⟩ := h
  refine gf_16_3 hC hS hk1 wq_982 dX9_minutesOf_1 ?_
  refine lv_iload_n hC.1 hC.2.1 dX9_minutesOf_4 rfl (lv_at hl 1 rfl) ?_
  obtain ⟨hk2, h⟩ := h
  obtain ⟨hx3, h⟩ := h
  refine g_iald hC hS hk2 (by decide) hx3 dX9_minutesOf_5 ?_
  refine lv_bipush (v := 12) hC.1 hC.2.1 dX9_minutesOf_6 (by decide) ?_
  refine lv_icmp_le (tgt := 15) hC.1 hC.2.1 dX9_minutesOf_8 (by decide) (fun c7 => ?_) (fun c7 => ?_)
  · have h := h.1 c7
    refine lv_aload_n hC.1 hC.2.1 dX9_minutesOf_15 rfl (lv_at hl 0 rfl) ?_
    refine gf_16_16 hC hS hk1 wq_1008 dX9_minutesOf_16 ?_
    obtain ⟨hk4, h⟩ := h
    refine gn_15_3 hC hS hk4 wq_1050 dX9_minutesOf_19 ?_
    refine lv_iconst (v := 4) hC.1 hC.2.1 dX9_minutesOf_22 (by decide) ?_
    refine lv_iload_n hC.1 hC.2.1 dX9_minutesOf_23 rfl (lv_at hl 1 rfl) ?_
    refine lv_imul hC.1 hC.2.1 dX9_minutesOf_24 ?_
    refine lv_iconst (v := 2) hC.1 hC.2.1 dX9_minutesOf_25 (by decide) ?_
    refine lv_iadd hC.1 hC.2.1 dX9_minutesOf_26 ?_
    obtain ⟨hk5, h⟩ := h
    obtain ⟨hx6, h⟩ := h
    refine g_iald hC hS hk5 (by decide) hx6 dX9_minutesOf_27 ?_
    refine lv_aload_n hC.1 hC.2.1 dX9_minutesOf_28 rfl (lv_at hl 0 rfl) ?_
    refine gf_16_3 hC hS hk1 wq_982 dX9_minutesOf_29 ?_
    refine lv_iload_n hC.1 hC.2.1 dX9_minutesOf_32 rfl (lv_at hl 1 rfl) ?_
    refine g_iald hC hS hk2 (by decide) hx3 dX9_minutesOf_33 ?_
    refine lv_iconst (v := 2) hC.1 hC.2.1 dX9_minutesOf_34 (by decide) ?_
    refine lv_idiv hC.1 hC.2.1 dX9_minutesOf_35 (by decide) ?_
    refine lv_iadd hC.1 hC.2.1 dX9_minutesOf_36 ?_
    exact g_iret hC hr hlk hS h dX9_minutesOf_37
  · have h := h.2 c7
    refine lv_iconst (v := (-1)) hC.1 hC.2.1 dX9_minutesOf_11 (by decide) ?_
    refine lv_goto (tgt := 37) hC.1 hC.2.1 dX9_minutesOf_12 (by decide) ?_
    exact g_iret hC hr hlk hS h dX9_minutesOf_37
def wk_X9_relax_6 (ks : List KY) (w : Nat) (a1 : Int32) (a2 : Int32) (a3 : Int32) (post : Int32 → VS → Prop) (B6 : Int32 → Int32 → VS → Prop) (x1 : Int32) (x2 : Int32) (x3 : Int32) (x4 : Int32) (x5 : Int32) (V : VS) : Prop := ((16, w, 0) ∈ ks ∧ (15, 0, 0) ∈ ks ∧ ((V 15 0 0 1 0) ≤ x5 → ((x4 = 0 ∨ x4 = 1) ∧ post x4 V)) ∧ (¬ ((V 15 0 0 1 0) ≤ x5) → ((21, 0, 0) ∈ ks ∧ vp_in ((8 * x2) + x5) 64 ∧ vp_in ((8 * x1) + x5) 64 ∧ ((x3 + (V 21 0 0 0 ((8 * x2) + x5).toNatClampNeg)) < (V 21 0 0 0 ((8 * x1) + x5).toNatClampNeg) → (∀ V6 : VS, V6 = vup V 21 0 0 0 ((8 * x1) + x5).toNatClampNeg (x3 + (V 21 0 0 0 ((8 * x2) + x5).toNatClampNeg)) → ∀ y7 : Int32, y7 = x5 + 1 → B6 1 y7 V6)) ∧ (¬ ((x3 + (V 21 0 0 0 ((8 * x2) + x5).toNatClampNeg)) < (V 21 0 0 0 ((8 * x1) + x5).toNatClampNeg)) → (∀ y8 : Int32, y8 = x5 + 1 → B6 x4 y8 V)))))
def wl_X9_relax_6 (ks : List KY) (w : Nat) (a1 : Int32) (a2 : Int32) (a3 : Int32) (post : Int32 → VS → Prop) (x1 : Int32) (x2 : Int32) (x3 : Int32) (x4 : Int32) (x5 : Int32) (V : VS) : Prop := ∃ J : Nat → Int32 → Int32 → VS → Prop, (∃ n, J n x4 x5 V) ∧ ∀ (n : Nat) (x4 : Int32) (x5 : Int32) (V : VS), J n x4 x5 V → wk_X9_relax_6 ks w a1 a2 a3 post (fun x4 x5 V => ∃ n', n' < n ∧ J n' x4 x5 V) x1 x2 x3 x4 x5 V
def wp_X9_relax (ks : List KY) (w : Nat) (a1 : Int32) (a2 : Int32) (a3 : Int32) (V : VS) (post : Int32 → VS → Prop) : Prop := (wl_X9_relax_6 ks w a1 a2 a3 post a1 a2 a3 0 0 V)
set_option maxHeartbeats 4000000 in
set_option maxRecDepth 100000 in
theorem c_X9_relax (l : Launch) (G : GG) (ks : List KY) (ad : AD) (w : Nat) (a1 : Int32) (a2 : Int32) (a3 : Int32) (V : VS) (post : Int32 → VS → Prop) (h : wp_X9_relax ks w a1 a2 a3 V post) (sz : Nat) : Met l yX9_relax (ws_ yX9_relax cX9_relax 6 (some .boolean)) ({ frames := 0, cells := 0, slots := 0, locals := 0 }) (mPc [.ref (ad 16 w 0), .int a1, .int a2, .int a3] G ks ad V sz) (mQi post G ks ad sz) 0 0 (mA ks ad sz) := by
  refine g_met (own := RX9) (by decide) rfl (Nat.le_of_ble_eq_true rfl) ?_
  intro p e s m args below meth c ls hC hsz hr hlk hin hS ha hl
  have hl : lv_has ls 6 [(0, .ref (ad 16 w 0)), (1, .int a1), (2, .int a2), (3, .int a3)] := hl
  unfold wp_X9_relax at h
  have kT6 : ∀ (x1 : Int32) (x2 : Int32) (x3 : Int32) (x4 : Int32) (x5 : Int32) (V : VS) (H : Heap) (locs : List Loc) (ls : Array Slot), wl_X9_relax_6 ks w a1 a2 a3 post x1 x2 x3 x4 x5 V → ST G ks ad V (mA ks ad sz) s.heap H locs → lv_has ls 6 [(0, .ref (ad 16 w 0)), (1, .int x1), (2, .int x2), (3, .int x3), (4, .int x4), (5, .int x5)] → W p l e ({ frames := 0, cells := 0, slots := 0, locals := 0 } : Room) s m args below meth c H locs 0 0 (MQ below (mQi post G ks ad sz) args s 0 0 (mA ks ad sz)) (F0 m 6 ls []) := by
    intro x1 x2 x3 x4 x5 V H locs ls h hS hl
    obtain ⟨J, ⟨n, hJ⟩, hb⟩ := h
    induction n using Nat.strongRecOn generalizing x4 x5 V H locs ls with
    | _ n ih =>
      have h := hb n x4 x5 V hJ
      obtain ⟨B6, eB⟩ : ∃ z : Int32 → Int32 → VS → Prop, z = (fun x4 x5 V => ∃ n', n' < n ∧ J n' x4 x5 V) := ⟨_, rfl⟩
      rw [← eB] at h
      have kB6 : ∀ (x4 : Int32) (x5 : Int32) (V : VS) (H : Heap) (locs : List Loc) (ls : Array Slot), B6 x4 x5 V → ST G ks ad V (mA ks ad sz) s.heap H locs → lv_has ls 6 [(0, .ref (ad 16 w 0)), (1, .int x1), (2, .int x2), (3, .int x3), (4, .int x4), (5, .int x5)] → W p l e ({ frames := 0, cells := 0, slots := 0, locals := 0 } : Room) s m args below meth c H locs 0 0 (MQ below (mQi post G ks ad sz) args s 0 0 (mA ks ad sz)) (F0 m 6 ls []) := by
        intro x4 x5 V H locs ls h hS hl
        rw [eB] at h
        obtain ⟨n', hn, hJ'⟩ := h
        exact ih n' hn _ _ _ _ _ _ hS hl hJ'
      clear ih hJ hb eB
      unfold wk_X9_relax_6 at h
      refine lv_iload hC.1 hC.2.1 dX9_relax_6 (lv_at hl 5 rfl) ?_
      refine lv_aload_n hC.1 hC.2.1 dX9_relax_8 rfl (lv_at hl 0 rfl) ?_
      obtain ⟨hk1, h⟩ := h
      refine gf_16_16 hC hS hk1 wq_1008 dX9_relax_9 ?_
      obtain ⟨hk2, h⟩ := h
      refine gn_15_1 hC hS hk2 wq_1046 dX9_relax_12 ?_
      refine lv_icmp_ge (tgt := 97) hC.1 hC.2.1 dX9_relax_15 (by decide) (fun c10 => ?_) (fun c10 => ?_)
      · have h := h.1 c10
        refine lv_iload hC.1 hC.2.1 dX9_relax_97 (lv_at hl 4 rfl) ?_
        exact g_zret hC hr hlk hS h.1 h.2 dX9_relax_99
      · have h := h.2 c10
        refine lv_iload_n hC.1 hC.2.1 dX9_relax_18 rfl (lv_at hl 3 rfl) ?_
        refine lv_aload_n hC.1 hC.2.1 dX9_relax_19 rfl (lv_at hl 0 rfl) ?_
        refine gf_16_16 hC hS hk1 wq_1008 dX9_relax_20 ?_
        refine gn_15_10 hC hS hk2 wq_1064 dX9_relax_23 ?_
        refine lv_bipush (v := 8) hC.1 hC.2.1 dX9_relax_26 (by decide) ?_
        refine lv_iload_n hC.1 hC.2.1 dX9_relax_28 rfl (lv_at hl 2 rfl) ?_
        refine lv_imul hC.1 hC.2.1 dX9_relax_29 ?_
        refine lv_iload hC.1 hC.2.1 dX9_relax_30 (lv_at hl 5 rfl) ?_
        refine lv_iadd hC.1 hC.2.1 dX9_relax_32 ?_
        obtain ⟨hk3, h⟩ := h
        obtain ⟨hx4, h⟩ := h
        refine g_iald hC hS hk3 (by decide) hx4 dX9_relax_33 ?_
        refine lv_iadd hC.1 hC.2.1 dX9_relax_34 ?_
        refine lv_aload_n hC.1 hC.2.1 dX9_relax_35 rfl (lv_at hl 0 rfl) ?_
        refine gf_16_16 hC hS hk1 wq_1008 dX9_relax_36 ?_
        refine gn_15_10 hC hS hk2 wq_1064 dX9_relax_39 ?_
        refine lv_bipush (v := 8) hC.1 hC.2.1 dX9_relax_42 (by decide) ?_
        refine lv_iload_n hC.1 hC.2.1 dX9_relax_44 rfl (lv_at hl 1 rfl) ?_
        refine lv_imul hC.1 hC.2.1 dX9_relax_45 ?_
        refine lv_iload hC.1 hC.2.1 dX9_relax_46 (lv_at hl 5 rfl) ?_
        refine lv_iadd hC.1 hC.2.1 dX9_relax_48 ?_
        obtain ⟨hx5, h⟩ := h
        refine g_iald hC hS hk3 (by decide) hx5 dX9_relax_49 ?_
        refine lv_icmp_lt (tgt := 56) hC.1 hC.2.1 dX9_relax_50 (by decide) (fun c9 => ?_) (fun c9 => ?_)
        · have h := h.1 c9
          refine lv_aload_n hC.1 hC.2.1 dX9_relax_56 rfl (lv_at hl 0 rfl) ?_
          refine gf_16_16 hC hS hk1 wq_1008 dX9_relax_57 ?_
          refine gn_15_10 hC hS hk2 wq_1064 dX9_relax_60 ?_
          refine lv_bipush (v := 8) hC.1 hC.2.1 dX9_relax_63 (by decide) ?_
          refine lv_iload_n hC.1 hC.2.1 dX9_relax_65 rfl (lv_at hl 1 rfl) ?_
          refine lv_imul hC.1 hC.2.1 dX9_relax_66 ?_
          refine lv_iload hC.1 hC.2.1 dX9_relax_67 (lv_at hl 5 rfl) ?_
          refine lv_iadd hC.1 hC.2.1 dX9_relax_69 ?_
          refine lv_iload_n hC.1 hC.2.1 dX9_relax_70 rfl (lv_at hl 3 rfl) ?_
          refine lv_aload_n hC.1 hC.2.1 dX9_relax_71 rfl (lv_at hl 0 rfl) ?_
          refine gf_16_16 hC hS hk1 wq_1008 dX9_relax_72 ?_
          refine gn_15_10 hC hS hk2 wq_1064 dX9_relax_75 ?_
          refine lv_bipush (v := 8) hC.1 hC.2.1 dX9_relax_78 (by decide) ?_
          refine lv_iload_n hC.1 hC.2.1 dX9_relax_80 rfl (lv_at hl 2 rfl) ?_
          refine lv_imul hC.1 hC.2.1 dX9_relax_81 ?_
          refine lv_iload hC.1 hC.2.1 dX9_relax_82 (lv_at hl 5 rfl) ?_
          refine lv_iadd hC.1 hC.2.1 dX9_relax_84 ?_
          refine g_iald hC hS hk3 (by decide) hx4 dX9_relax_85 ?_
          refine lv_iadd hC.1 hC.2.1 dX9_relax_86 ?_
          refine g_iast hC hS hk3 (by decide) hx5 dX9_relax_87 (fun H locs hS => ?_)
          obtain ⟨V6, eV6⟩ : ∃ z : VS, z = vup V 21 0 0 0 ((8 * x1) + x5).toNatClampNeg (x3 + (V 21 0 0 0 ((8 * x2) + x5).toNatClampNeg)) := ⟨_, rfl⟩
          rw [← eV6] at hS
          have h := h V6 eV6
          refine lv_iconst (v := 1) hC.1 hC.2.1 dX9_relax_88 (by decide) ?_
          refine lv_istore (lv' := [(4, .int 1), (0, .ref (ad 16 w 0)), (1, .int x1), (2, .int x2), (3, .int x3), (5, .int x5)]) hC.1 hC.2.1 dX9_relax_89 hl (by decide) rfl (fun ls hl => ?_)
          obtain ⟨y7, ey7⟩ : ∃ z : Int32, z = x5 + 1 := ⟨_, rfl⟩
          have h := h y7 ey7
          refine lv_iinc (v := y7) (lv' := [(5, .int y7), (4, .int 1), (0, .ref (ad 16 w 0)), (1, .int x1), (2, .int x2), (3, .int x3)]) hC.1 hC.2.1 dX9_relax_91 hl (k := 5) rfl (by rw [ey7]; rfl) (by decide) rfl (fun ls hl => ?_)
          refine lv_goto (tgt := 6) hC.1 hC.2.1 dX9_relax_94 (by decide) ?_
          exact kB6 _ _ _ _ _ _ h hS (lv_sub hl [2, 3, 4, 5, 1, 0] rfl)
        · have h := h.2 c9
          refine lv_goto (tgt := 91) hC.1 hC.2.1 dX9_relax_53 (by decide) ?_
          obtain ⟨y8, ey8⟩ : ∃ z : Int32, z = x5 + 1 := ⟨_, rfl⟩
          have h := h y8 ey8
          refine lv_iinc (v := y8) (lv' := [(5, .int y8), (0, .ref (ad 16 w 0)), (1, .int x1), (2, .int x2), (3, .int x3), (4, .int x4)]) hC.1 hC.2.1 dX9_relax_91 hl (k := 5) rfl (by rw [ey8]; rfl) (by decide) rfl (fun ls hl => ?_)
          refine lv_goto (tgt := 6) hC.1 hC.2.1 dX9_relax_94 (by decide) ?_
          exact kB6 _ _ _ _ _ _ h hS (lv_sub hl [1, 2, 3, 4, 5, 0] rfl)
  refine lv_iconst (v := 0) hC.1 hC.2.1 dX9_relax_0 (by decide) ?_
  refine lv_istore (lv' := [(4, .int 0), (0, .ref (ad 16 w 0)), (1, .int a1), (2, .int a2), (3, .int a3)]) hC.1 hC.2.1 dX9_relax_1 hl (by decide) rfl (fun ls hl => ?_)
  refine lv_iconst (v := 0) hC.1 hC.2.1 dX9_relax_3 (by decide) ?_
  refine lv_istore (lv' := [(5, .int 0), (4, .int 0), (0, .ref (ad 16 w 0)), (1, .int a1), (2, .int a2), (3, .int a3)]) hC.1 hC.2.1 dX9_relax_4 hl (by decide) rfl (fun ls hl => ?_)
  exact kT6 _ _ _ _ _ _ _ _ _ h hS (lv_sub hl [2, 3, 4, 5, 1, 0] rfl)
def wk_X9_find_56 (ks : List KY) (w : Nat) (post : VS → Prop) (B48 : Int32 → VS → Prop) (B56 : Int32 → Int32 → VS → Prop) (x1 : Int32) (x2 : Int32) (V : VS) : Prop := ((16, w, 0) ∈ ks ∧ (15, 0, 0) ∈ ks ∧ ((V 15 0 0 2 0) ≤ x2 → (B48 x1 V)) ∧ (¬ ((V 15 0 0 2 0) ≤ x2) → (wp_X9_minutesOf ks w x2 V (fun r4 V3 => ((r4 = (-1) → (∀ y5 : Int32, y5 = x2 + 1 → B56 x1 y5 V3)) ∧ (¬ (r4 = (-1)) → ((17, 0, 0) ∈ ks ∧ vp_in (4 * x2) 64 ∧ vp_in ((4 * x2) + 1) 64 ∧ wp_X9_minutesOf ks w x2 V3 (fun r10 V9 => (wp_X9_relax ks w (V3 17 0 0 0 (4 * x2).toNatClampNeg) (V3 17 0 0 0 ((4 * x2) + 1).toNatClampNeg) r10 V9 (fun r12 V11 => (wp_X9_minutesOf ks w x2 V11 (fun r14 V13 => (wp_X9_relax ks w (V11 17 0 0 0 ((4 * x2) + 1).toNatClampNeg) (V11 17 0 0 0 (4 * x2).toNatClampNeg) r14 V13 (fun r16 V15 => (∀ y17 : Int32, y17 = x1 ||| (r12 ||| r16) → ∀ y18 : Int32, y18 = x2 + 1 → B56 y17 y18 V15)))))))))))))))
def wl_X9_find_56 (ks : List KY) (w : Nat) (post : VS → Prop) (B48 : Int32 → VS → Prop) (x1 : Int32) (x2 : Int32) (V : VS) : Prop := ∃ J : Nat → Int32 → Int32 → VS → Prop, (∃ n, J n x1 x2 V) ∧ ∀ (n : Nat) (x1 : Int32) (x2 : Int32) (V : VS), J n x1 x2 V → wk_X9_find_56 ks w post B48 (fun x1 x2 V => ∃ n', n' < n ∧ J n' x1 x2 V) x1 x2 V
def wk_X9_find_48 (ks : List KY) (w : Nat) (post : VS → Prop) (B48 : Int32 → VS → Prop) (x1 : Int32) (V : VS) : Prop := ((x1 = 0 → (post V)) ∧ (¬ (x1 = 0) → (wl_X9_find_56 ks w post B48 0 0 V)))
def wl_X9_find_48 (ks : List KY) (w : Nat) (post : VS → Prop) (x1 : Int32) (V : VS) : Prop := ∃ J : Nat → Int32 → VS → Prop, (∃ n, J n x1 V) ∧ ∀ (n : Nat) (x1 : Int32) (V : VS), J n x1 V → wk_X9_find_48 ks w post (fun x1 V => ∃ n', n' < n ∧ J n' x1 V) x1 V
def wk_X9_find_2 (ks : List KY) (w : Nat) (post : VS → Prop) (B2 : Int32 → VS → Prop) (x1 : Int32) (V : VS) : Prop := ((16, w, 0) ∈ ks ∧ (15, 0, 0) ∈ ks ∧ (21, 0, 0) ∈ ks ∧ ((64 : Int32) ≤ x1 → (wl_X9_find_48 ks w post 1 V)) ∧ (¬ ((64 : Int32) ≤ x1) → (((x1 / 8) = (x1 - x1 / 8 * 8) → (vp_in x1 64 ∧ ∀ V26 : VS, V26 = vup V 21 0 0 0 x1.toNatClampNeg 0 → ∀ y27 : Int32, y27 = x1 + 1 → B2 y27 V26)) ∧ (¬ ((x1 / 8) = (x1 - x1 / 8 * 8)) → (vp_in x1 64 ∧ ∀ V29 : VS, V29 = vup V 21 0 0 0 x1.toNatClampNeg 1000000 → ∀ y30 : Int32, y30 = x1 + 1 → B2 y30 V29)))))
def wl_X9_find_2 (ks : List KY) (w : Nat) (post : VS → Prop) (x1 : Int32) (V : VS) : Prop := ∃ J : Nat → Int32 → VS → Prop, (∃ n, J n x1 V) ∧ ∀ (n : Nat) (x1 : Int32) (V : VS), J n x1 V → wk_X9_find_2 ks w post (fun x1 V => ∃ n', n' < n ∧ J n' x1 V) x1 V
def wp_X9_find (ks : List KY) (w : Nat) (V : VS) (post : VS → Prop) : Prop := (wl_X9_find_2 ks w post 0 V)
set_option maxHeartbeats 4000000 in
set_option maxRecDepth 100000 in
theorem c_X9_find (l : Launch) (G : GG) (ks : List KY) (ad : AD) (w : Nat) (V : VS) (post : VS → Prop) (h : wp_X9_find ks w V post) (sz : Nat) : Met l yX9_find (ws_ yX9_find cX9_find 3 none) ({ frames := 1, cells := 0, slots := 0, locals := 25 }) (mPc [.ref (ad 16 w 0)] G ks ad V sz) (mQv post G ks ad sz) 0 0 (mA ks ad sz) := by
  refine g_met (own := RX9) (by decide) rfl (Nat.le_of_ble_eq_true rfl) ?_
  intro p e s m args below meth c ls hC hsz hr hlk hin hS ha hl
  have hl : lv_has ls 3 [(0, .ref (ad 16 w 0))] := hl
  unfold wp_X9_find at h
  have kT48 : ∀ (x1 : Int32) (V : VS) (H : Heap) (locs : List Loc) (ls : Array Slot), wl_X9_find_48 ks w post x1 V → ST G ks ad V (mA ks ad sz) s.heap H locs → lv_has ls 3 [(0, .ref (ad 16 w 0)), (1, .int x1)] → W p l e ({ frames := 1, cells := 0, slots := 0, locals := 25 } : Room) s m args below meth c H locs 0 0 (MQ below (mQv post G ks ad sz) args s 0 0 (mA ks ad sz)) (F0 m 48 ls []) := by
    intro x1 V H locs ls h hS hl
    obtain ⟨J, ⟨n, hJ⟩, hb⟩ := h
    induction n using Nat.strongRecOn generalizing x1 V H locs ls with
    | _ n ih =>
      have h := hb n x1 V hJ
      obtain ⟨B48, eB⟩ : ∃ z : Int32 → VS → Prop, z = (fun x1 V => ∃ n', n' < n ∧ J n' x1 V) := ⟨_, rfl⟩
      rw [← eB] at h
      have kB48 : ∀ (x1 : Int32) (V : VS) (H : Heap) (locs : List Loc) (ls : Array Slot), B48 x1 V → ST G ks ad V (mA ks ad sz) s.heap H locs → lv_has ls 3 [(0, .ref (ad 16 w 0)), (1, .int x1)] → W p l e ({ frames := 1, cells := 0, slots := 0, locals := 25 } : Room) s m args below meth c H locs 0 0 (MQ below (mQv post G ks ad sz) args s 0 0 (mA ks ad sz)) (F0 m 48 ls []) := by
        intro x1 V H locs ls h hS hl
        rw [eB] at h
        obtain ⟨n', hn, hJ'⟩ := h
        exact ih n' hn _ _ _ _ _ hS hl hJ'
      clear ih hJ hb eB
      unfold wk_X9_find_48 at h
      have kT56 : ∀ (x1 : Int32) (x2 : Int32) (V : VS) (H : Heap) (locs : List Loc) (ls : Array Slot), wl_X9_find_56 ks w post B48 x1 x2 V → ST G ks ad V (mA ks ad sz) s.heap H locs → lv_has ls 3 [(0, .ref (ad 16 w 0)), (1, .int x1), (2, .int x2)] → W p l e ({ frames := 1, cells := 0, slots := 0, locals := 25 } : Room) s m args below meth c H locs 0 0 (MQ below (mQv post G ks ad sz) args s 0 0 (mA ks ad sz)) (F0 m 56 ls []) := by
        intro x1 x2 V H locs ls h hS hl
        obtain ⟨J, ⟨n, hJ⟩, hb⟩ := h
        induction n using Nat.strongRecOn generalizing x1 x2 V H locs ls with
        | _ n ih =>
          have h := hb n x1 x2 V hJ
          obtain ⟨B56, eB⟩ : ∃ z : Int32 → Int32 → VS → Prop, z = (fun x1 x2 V => ∃ n', n' < n ∧ J n' x1 x2 V) := ⟨_, rfl⟩
          rw [← eB] at h
          have kB56 : ∀ (x1 : Int32) (x2 : Int32) (V : VS) (H : Heap) (locs : List Loc) (ls : Array Slot), B56 x1 x2 V → ST G ks ad V (mA ks ad sz) s.heap H locs → lv_has ls 3 [(0, .ref (ad 16 w 0)), (1, .int x1), (2, .int x2)] → W p l e ({ frames := 1, cells := 0, slots := 0, locals := 25 } : Room) s m args below meth c H locs 0 0 (MQ below (mQv post G ks ad sz) args s 0 0 (mA ks ad sz)) (F0 m 56 ls []) := by
            intro x1 x2 V H locs ls h hS hl
            rw [eB] at h
            obtain ⟨n', hn, hJ'⟩ := h
            exact ih n' hn _ _ _ _ _ _ hS hl hJ'
          clear ih hJ hb eB
          unfold wk_X9_find_56 at h
          refine lv_iload_n hC.1 hC.2.1 dX9_find_56 rfl (lv_at hl 2 rfl) ?_
          refine lv_aload_n hC.1 hC.2.1 dX9_find_57 rfl (lv_at hl 0 rfl) ?_
          obtain ⟨hk1, h⟩ := h
          refine gf_16_16 hC hS hk1 wq_1008 dX9_find_58 ?_
          obtain ⟨hk2, h⟩ := h
          refine gn_15_2 hC hS hk2 wq_1047 dX9_find_61 ?_
          refine lv_icmp_ge (tgt := 152) hC.1 hC.2.1 dX9_find_64 (by decide) (fun c20 => ?_) (fun c20 => ?_)
          · have h := h.1 c20
            refine lv_goto (tgt := 48) hC.1 hC.2.1 dX9_find_152 (by decide) ?_
            exact kB48 _ _ _ _ _ h hS (lv_sub hl [0, 1] rfl)
          · have h := h.2 c20
            refine lv_aload_n hC.1 hC.2.1 dX9_find_67 rfl (lv_at hl 0 rfl) ?_
            refine lv_iload_n hC.1 hC.2.1 dX9_find_68 rfl (lv_at hl 2 rfl) ?_
            refine g_calli0 hS (g_runV (n := 1) (rest := []) (As := [.int x2]) (C := RX9) (T := TX9) (N := 17) hC hS hk1 rfl rfl (c_X9_minutesOf l G ks ad w x2 V _ h _) (gI wq_1156 wq_1144 wq_1145 wq_47 wq_1146) rfl ⟨⟨by decide +kernel, by decide +kernel, by decide +kernel⟩, rfl, rfl, Nat.le_of_ble_eq_true rfl, Nat.le_of_ble_eq_true rfl⟩ rfl hl rfl (Nat.le_of_ble_eq_true rfl) dX9_find_69 ⟨Nat.le_of_ble_eq_true rfl, Nat.le_of_ble_eq_true rfl⟩) (fun r4 V3 H locs h hS => ?_)
            refine lv_iconst (v := (-1)) hC.1 hC.2.1 dX9_find_72 (by decide) ?_
            refine lv_icmp_eq (tgt := 146) hC.1 hC.2.1 dX9_find_73 (by decide) (fun c19 => ?_) (fun c19 => ?_)
            · have h := h.1 c19
              obtain ⟨y5, ey5⟩ : ∃ z : Int32, z = x2 + 1 := ⟨_, rfl⟩
              have h := h y5 ey5
              refine lv_iinc (v := y5) (lv' := [(2, .int y5), (0, .ref (ad 16 w 0)), (1, .int x1)]) hC.1 hC.2.1 dX9_find_146 hl (k := 2) rfl (by rw [ey5]; rfl) (by decide) rfl (fun ls hl => ?_)
              refine lv_goto (tgt := 56) hC.1 hC.2.1 dX9_find_149 (by decide) ?_
              exact kB56 _ _ _ _ _ _ h hS (lv_sub hl [1, 2, 0] rfl)
            · have h := h.2 c19
              refine lv_iload_n hC.1 hC.2.1 dX9_find_76 rfl (lv_at hl 1 rfl) ?_
              refine lv_aload_n hC.1 hC.2.1 dX9_find_77 rfl (lv_at hl 0 rfl) ?_
              refine lv_aload_n hC.1 hC.2.1 dX9_find_78 rfl (lv_at hl 0 rfl) ?_
              refine gf_16_16 hC hS hk1 wq_1008 dX9_find_79 ?_
              refine gn_15_3 hC hS hk2 wq_1050 dX9_find_82 ?_
              refine lv_iconst (v := 4) hC.1 hC.2.1 dX9_find_85 (by decide) ?_
              refine lv_iload_n hC.1 hC.2.1 dX9_find_86 rfl (lv_at hl 2 rfl) ?_
              refine lv_imul hC.1 hC.2.1 dX9_find_87 ?_
              obtain ⟨hk6, h⟩ := h
              obtain ⟨hx7, h⟩ := h
              refine g_iald hC hS hk6 (by decide) hx7 dX9_find_88 ?_
              refine lv_aload_n hC.1 hC.2.1 dX9_find_89 rfl (lv_at hl 0 rfl) ?_
              refine gf_16_16 hC hS hk1 wq_1008 dX9_find_90 ?_
              refine gn_15_3 hC hS hk2 wq_1050 dX9_find_93 ?_
              refine lv_iconst (v := 4) hC.1 hC.2.1 dX9_find_96 (by decide) ?_
              refine lv_iload_n hC.1 hC.2.1 dX9_find_97 rfl (lv_at hl 2 rfl) ?_
              refine lv_imul hC.1 hC.2.1 dX9_find_98 ?_
              refine lv_iconst (v := 1) hC.1 hC.2.1 dX9_find_99 (by decide) ?_
              refine lv_iadd hC.1 hC.2.1 dX9_find_100 ?_
              obtain ⟨hx8, h⟩ := h
              refine g_iald hC hS hk6 (by decide) hx8 dX9_find_101 ?_
              refine lv_aload_n hC.1 hC.2.1 dX9_find_102 rfl (lv_at hl 0 rfl) ?_
              refine lv_iload_n hC.1 hC.2.1 dX9_find_103 rfl (lv_at hl 2 rfl) ?_
              refine g_calli0 hS (g_runV (n := 1) (rest := [.int (V3 17 0 0 0 ((4 * x2) + 1).toNatClampNeg), .int (V3 17 0 0 0 (4 * x2).toNatClampNeg), .ref (ad 16 w 0), .int x1]) (As := [.int x2]) (C := RX9) (T := TX9) (N := 17) hC hS hk1 rfl rfl (c_X9_minutesOf l G ks ad w x2 V3 _ h _) (gI wq_1156 wq_1144 wq_1145 wq_47 wq_1146) rfl ⟨⟨by decide +kernel, by decide +kernel, by decide +kernel⟩, rfl, rfl, Nat.le_of_ble_eq_true rfl, Nat.le_of_ble_eq_true rfl⟩ rfl hl rfl (Nat.le_of_ble_eq_true rfl) dX9_find_104 ⟨Nat.le_of_ble_eq_true rfl, Nat.le_of_ble_eq_true rfl⟩) (fun r10 V9 H locs h hS => ?_)
              refine g_calli0 hS (g_runV (n := 3) (rest := [.int x1]) (As := [.int (V3 17 0 0 0 (4 * x2).toNatClampNeg), .int (V3 17 0 0 0 ((4 * x2) + 1).toNatClampNeg), .int r10]) (C := RX9) (T := TX9) (N := 17) hC hS hk1 rfl rfl (c_X9_relax l G ks ad w (V3 17 0 0 0 (4 * x2).toNatClampNeg) (V3 17 0 0 0 ((4 * x2) + 1).toNatClampNeg) r10 V9 _ h _) (gI wq_1157 wq_1159 wq_27 wq_47 wq_1160) rfl ⟨⟨by decide +kernel, by decide +kernel, by decide +kernel⟩, rfl, rfl, Nat.le_of_ble_eq_true rfl, Nat.le_of_ble_eq_true rfl⟩ rfl hl rfl (Nat.le_of_ble_eq_true rfl) dX9_find_107 ⟨Nat.le_of_ble_eq_true rfl, Nat.le_of_ble_eq_true rfl⟩) (fun r12 V11 H locs h hS => ?_)
              refine lv_aload_n hC.1 hC.2.1 dX9_find_110 rfl (lv_at hl 0 rfl) ?_
              refine lv_aload_n hC.1 hC.2.1 dX9_find_111 rfl (lv_at hl 0 rfl) ?_
              refine gf_16_16 hC hS hk1 wq_1008 dX9_find_112 ?_
              refine gn_15_3 hC hS hk2 wq_1050 dX9_find_115 ?_
              refine lv_iconst (v := 4) hC.1 hC.2.1 dX9_find_118 (by decide) ?_
              refine lv_iload_n hC.1 hC.2.1 dX9_find_119 rfl (lv_at hl 2 rfl) ?_
              refine lv_imul hC.1 hC.2.1 dX9_find_120 ?_
              refine lv_iconst (v := 1) hC.1 hC.2.1 dX9_find_121 (by decide) ?_
              refine lv_iadd hC.1 hC.2.1 dX9_find_122 ?_
              refine g_iald hC hS hk6 (by decide) hx8 dX9_find_123 ?_
              refine lv_aload_n hC.1 hC.2.1 dX9_find_124 rfl (lv_at hl 0 rfl) ?_
              refine gf_16_16 hC hS hk1 wq_1008 dX9_find_125 ?_
              refine gn_15_3 hC hS hk2 wq_1050 dX9_find_128 ?_
              refine lv_iconst (v := 4) hC.1 hC.2.1 dX9_find_131 (by decide) ?_
              refine lv_iload_n hC.1 hC.2.1 dX9_find_132 rfl (lv_at hl 2 rfl) ?_
              refine lv_imul hC.1 hC.2.1 dX9_find_133 ?_
              refine g_iald hC hS hk6 (by decide) hx7 dX9_find_134 ?_
              refine lv_aload_n hC.1 hC.2.1 dX9_find_135 rfl (lv_at hl 0 rfl) ?_
              refine lv_iload_n hC.1 hC.2.1 dX9_find_136 rfl (lv_at hl 2 rfl) ?_
              refine g_calli0 hS (g_runV (n := 1) (rest := [.int (V11 17 0 0 0 (4 * x2).toNatClampNeg), .int (V11 17 0 0 0 ((4 * x2) + 1).toNatClampNeg), .ref (ad 16 w 0), .int r12, .int x1]) (As := [.int x2]) (C := RX9) (T := TX9) (N := 17) hC hS hk1 rfl rfl (c_X9_minutesOf l G ks ad w x2 V11 _ h _) (gI wq_1156 wq_1144 wq_1145 wq_47 wq_1146) rfl ⟨⟨by decide +kernel, by decide +kernel, by decide +kernel⟩, rfl, rfl, Nat.le_of_ble_eq_true rfl, Nat.le_of_ble_eq_true rfl⟩ rfl hl rfl (Nat.le_of_ble_eq_true rfl) dX9_find_137 ⟨Nat.le_of_ble_eq_true rfl, Nat.le_of_ble_eq_true rfl⟩) (fun r14 V13 H locs h hS => ?_)
              refine g_calli0 hS (g_runV (n := 3) (rest := [.int r12, .int x1]) (As := [.int (V11 17 0 0 0 ((4 * x2) + 1).toNatClampNeg), .int (V11 17 0 0 0 (4 * x2).toNatClampNeg), .int r14]) (C := RX9) (T := TX9) (N := 17) hC hS hk1 rfl rfl (c_X9_relax l G ks ad w (V11 17 0 0 0 ((4 * x2) + 1).toNatClampNeg) (V11 17 0 0 0 (4 * x2).toNatClampNeg) r14 V13 _ h _) (gI wq_1157 wq_1159 wq_27 wq_47 wq_1160) rfl ⟨⟨by decide +kernel, by decide +kernel, by decide +kernel⟩, rfl, rfl, Nat.le_of_ble_eq_true rfl, Nat.le_of_ble_eq_true rfl⟩ rfl hl rfl (Nat.le_of_ble_eq_true rfl) dX9_find_140 ⟨Nat.le_of_ble_eq_true rfl, Nat.le_of_ble_eq_true rfl⟩) (fun r16 V15 H locs h hS => ?_)
              refine lv_ior hC.1 hC.2.1 dX9_find_143 ?_
              refine lv_ior hC.1 hC.2.1 dX9_find_144 ?_
              refine lv_topi (fun y17 ey17 => ?_)
              have h := h y17 ey17
              refine lv_istore_n (lv' := [(1, .int y17), (0, .ref (ad 16 w 0)), (2, .int x2)]) hC.1 hC.2.1 dX9_find_145 rfl hl (by decide) rfl (fun ls hl => ?_)
              obtain ⟨y18, ey18⟩ : ∃ z : Int32, z = x2 + 1 := ⟨_, rfl⟩
              have h := h y18 ey18
              refine lv_iinc (v := y18) (lv' := [(2, .int y18), (1, .int y17), (0, .ref (ad 16 w 0))]) hC.1 hC.2.1 dX9_find_146 hl (k := 2) rfl (by rw [ey18]; rfl) (by decide) rfl (fun ls hl => ?_)
              refine lv_goto (tgt := 56) hC.1 hC.2.1 dX9_find_149 (by decide) ?_
              exact kB56 _ _ _ _ _ _ h hS (lv_sub hl [2, 1, 0] rfl)
      refine lv_iload_n hC.1 hC.2.1 dX9_find_48 rfl (lv_at hl 1 rfl) ?_
      refine lv_if_eq (tgt := 155) hC.1 hC.2.1 dX9_find_49 (by decide) (fun c21 => ?_) (fun c21 => ?_)
      · have h := h.1 c21
        exact g_vret hC hr hlk hS h dX9_find_155
      · have h := h.2 c21
        refine lv_iconst (v := 0) hC.1 hC.2.1 dX9_find_52 (by decide) ?_
        refine lv_istore_n (lv' := [(1, .int 0), (0, .ref (ad 16 w 0))]) hC.1 hC.2.1 dX9_find_53 rfl hl (by decide) rfl (fun ls hl => ?_)
        refine lv_iconst (v := 0) hC.1 hC.2.1 dX9_find_54 (by decide) ?_
        refine lv_istore_n (lv' := [(2, .int 0), (1, .int 0), (0, .ref (ad 16 w 0))]) hC.1 hC.2.1 dX9_find_55 rfl hl (by decide) rfl (fun ls hl => ?_)
        exact kT56 _ _ _ _ _ _ h hS (lv_sub hl [2, 1, 0] rfl)
  have kT2 : ∀ (x1 : Int32) (V : VS) (H : Heap) (locs : List Loc) (ls : Array Slot), wl_X9_find_2 ks w post x1 V → ST G ks ad V (mA ks ad sz) s.heap H locs → lv_has ls 3 [(0, .ref (ad 16 w 0)), (1, .int x1)] → W p l e ({ frames := 1, cells := 0, slots := 0, locals := 25 } : Room) s m args below meth c H locs 0 0 (MQ below (mQv post G ks ad sz) args s 0 0 (mA ks ad sz)) (F0 m 2 ls []) := by
    intro x1 V H locs ls h hS hl
    obtain ⟨J, ⟨n, hJ⟩, hb⟩ := h
    induction n using Nat.strongRecOn generalizing x1 V H locs ls with
    | _ n ih =>
      have h := hb n x1 V hJ
      obtain ⟨B2, eB⟩ : ∃ z : Int32 → VS → Prop, z = (fun x1 V => ∃ n', n' < n ∧ J n' x1 V) := ⟨_, rfl⟩
      rw [← eB] at h
      have kB2 : ∀ (x1 : Int32) (V : VS) (H : Heap) (locs : List Loc) (ls : Array Slot), B2 x1 V → ST G ks ad V (mA ks ad sz) s.heap H locs → lv_has ls 3 [(0, .ref (ad 16 w 0)), (1, .int x1)] → W p l e ({ frames := 1, cells := 0, slots := 0, locals := 25 } : Room) s m args below meth c H locs 0 0 (MQ below (mQv post G ks ad sz) args s 0 0 (mA ks ad sz)) (F0 m 2 ls []) := by
        intro x1 V H locs ls h hS hl
        rw [eB] at h
        obtain ⟨n', hn, hJ'⟩ := h
        exact ih n' hn _ _ _ _ _ hS hl hJ'
      clear ih hJ hb eB
      unfold wk_X9_find_2 at h
      refine lv_iload_n hC.1 hC.2.1 dX9_find_2 rfl (lv_at hl 1 rfl) ?_
      refine lv_aload_n hC.1 hC.2.1 dX9_find_3 rfl (lv_at hl 0 rfl) ?_
      obtain ⟨hk22, h⟩ := h
      refine gf_16_16 hC hS hk22 wq_1008 dX9_find_4 ?_
      obtain ⟨hk23, h⟩ := h
      refine gn_15_10 hC hS hk23 wq_1064 dX9_find_7 ?_
      obtain ⟨hk24, h⟩ := h
      refine g_alen hC hS hk24 (by decide) dX9_find_10 ?_
      refine W.eq (g2 := F0 m 11 ls [.int 64, .int x1]) rfl ?_
      refine lv_icmp_ge (tgt := 46) hC.1 hC.2.1 dX9_find_11 (by decide) (fun c32 => ?_) (fun c32 => ?_)
      · have h := h.1 c32
        refine lv_iconst (v := 1) hC.1 hC.2.1 dX9_find_46 (by decide) ?_
        refine lv_istore_n (lv' := [(1, .int 1), (0, .ref (ad 16 w 0))]) hC.1 hC.2.1 dX9_find_47 rfl hl (by decide) rfl (fun ls hl => ?_)
        exact kT48 _ _ _ _ _ h hS (lv_sub hl [1, 0] rfl)
      · have h := h.2 c32
        refine lv_aload_n hC.1 hC.2.1 dX9_find_14 rfl (lv_at hl 0 rfl) ?_
        refine gf_16_16 hC hS hk22 wq_1008 dX9_find_15 ?_
        refine gn_15_10 hC hS hk23 wq_1064 dX9_find_18 ?_
        refine lv_iload_n hC.1 hC.2.1 dX9_find_21 rfl (lv_at hl 1 rfl) ?_
        refine lv_iload_n hC.1 hC.2.1 dX9_find_22 rfl (lv_at hl 1 rfl) ?_
        refine lv_bipush (v := 8) hC.1 hC.2.1 dX9_find_23 (by decide) ?_
        refine lv_idiv hC.1 hC.2.1 dX9_find_25 (by decide) ?_
        refine lv_iload_n hC.1 hC.2.1 dX9_find_26 rfl (lv_at hl 1 rfl) ?_
        refine lv_bipush (v := 8) hC.1 hC.2.1 dX9_find_27 (by decide) ?_
        refine lv_irem hC.1 hC.2.1 dX9_find_29 (by decide) ?_
        refine lv_icmp_ne (tgt := 37) hC.1 hC.2.1 dX9_find_30 (by decide) (fun c31 => ?_) (fun c31 => ?_)
        · have h := h.2 c31
          refine lv_ldc hC.1 hC.2.1 hC.2.2.2.1 (hC.2.2.2.2.1 _ wq_1155) dX9_find_37 ?_
          obtain ⟨hx28, h⟩ := h
          refine g_iast hC hS hk24 (by decide) hx28 dX9_find_39 (fun H locs hS => ?_)
          obtain ⟨V29, eV29⟩ : ∃ z : VS, z = vup V 21 0 0 0 x1.toNatClampNeg 1000000 := ⟨_, rfl⟩
          rw [← eV29] at hS
          have h := h V29 eV29
          obtain ⟨y30, ey30⟩ : ∃ z : Int32, z = x1 + 1 := ⟨_, rfl⟩
          have h := h y30 ey30
          refine lv_iinc (v := y30) (lv' := [(1, .int y30), (0, .ref (ad 16 w 0))]) hC.1 hC.2.1 dX9_find_40 hl (k := 1) rfl (by rw [ey30]; rfl) (by decide) rfl (fun ls hl => ?_)
          refine lv_goto (tgt := 2) hC.1 hC.2.1 dX9_find_43 (by decide) ?_
          exact kB2 _ _ _ _ _ h hS (lv_sub hl [1, 0] rfl)
        · have h := h.1 c31
          refine lv_iconst (v := 0) hC.1 hC.2.1 dX9_find_33 (by decide) ?_
          refine lv_goto (tgt := 39) hC.1 hC.2.1 dX9_find_34 (by decide) ?_
          obtain ⟨hx25, h⟩ := h
          refine g_iast hC hS hk24 (by decide) hx25 dX9_find_39 (fun H locs hS => ?_)
          obtain ⟨V26, eV26⟩ : ∃ z : VS, z = vup V 21 0 0 0 x1.toNatClampNeg 0 := ⟨_, rfl⟩
          rw [← eV26] at hS
          have h := h V26 eV26
          obtain ⟨y27, ey27⟩ : ∃ z : Int32, z = x1 + 1 := ⟨_, rfl⟩
          have h := h y27 ey27
          refine lv_iinc (v := y27) (lv' := [(1, .int y27), (0, .ref (ad 16 w 0))]) hC.1 hC.2.1 dX9_find_40 hl (k := 1) rfl (by rw [ey27]; rfl) (by decide) rfl (fun ls hl => ?_)
          refine lv_goto (tgt := 2) hC.1 hC.2.1 dX9_find_43 (by decide) ?_
          exact kB2 _ _ _ _ _ h hS (lv_sub hl [1, 0] rfl)
  refine lv_iconst (v := 0) hC.1 hC.2.1 dX9_find_0 (by decide) ?_
  refine lv_istore_n (lv' := [(1, .int 0), (0, .ref (ad 16 w 0))]) hC.1 hC.2.1 dX9_find_1 rfl hl (by decide) rfl (fun ls hl => ?_)
  exact kT2 _ _ _ _ _ h hS (lv_sub hl [1, 0] rfl)
def wk_X9_many_4 (ks : List KY) (w : Nat) (a1 : Int32) (post : Int32 → VS → Prop) (B4 : Int32 → Int32 → VS → Prop) (x1 : Int32) (x2 : Int32) (x3 : Int32) (V : VS) : Prop := ((16, w, 0) ∈ ks ∧ (15, 0, 0) ∈ ks ∧ ((V 15 0 0 6 0) ≤ x3 → (post x2 V)) ∧ (¬ ((V 15 0 0 6 0) ≤ x3) → ((26, w, 0) ∈ ks ∧ vp_in x3 24 ∧ ((V 26 w 0 0 x3.toNatClampNeg) = x1 → (∀ y5 : Int32, y5 = x2 + 1 → ∀ y6 : Int32, y6 = x3 + 1 → B4 y5 y6 V)) ∧ (¬ ((V 26 w 0 0 x3.toNatClampNeg) = x1) → (∀ y7 : Int32, y7 = x2 + 0 → ∀ y8 : Int32, y8 = x3 + 1 → B4 y7 y8 V)))))
def wl_X9_many_4 (ks : List KY) (w : Nat) (a1 : Int32) (post : Int32 → VS → Prop) (x1 : Int32) (x2 : Int32) (x3 : Int32) (V : VS) : Prop := ∃ J : Nat → Int32 → Int32 → VS → Prop, (∃ n, J n x2 x3 V) ∧ ∀ (n : Nat) (x2 : Int32) (x3 : Int32) (V : VS), J n x2 x3 V → wk_X9_many_4 ks w a1 post (fun x2 x3 V => ∃ n', n' < n ∧ J n' x2 x3 V) x1 x2 x3 V
def wp_X9_many (ks : List KY) (w : Nat) (a1 : Int32) (V : VS) (post : Int32 → VS → Prop) : Prop := (wl_X9_many_4 ks w a1 post a1 0 0 V)
set_option maxHeartbeats 4000000 in
set_option maxRecDepth 100000 in
theorem c_X9_many (l : Launch) (G : GG) (ks : List KY) (ad : AD) (w : Nat) (a1 : Int32) (V : VS) (post : Int32 → VS → Prop) (h : wp_X9_many ks w a1 V post) (sz : Nat) : Met l yX9_many (ws_ yX9_many cX9_many 4 (some .int)) ({ frames := 0, cells := 0, slots := 0, locals := 0 }) (mPc [.ref (ad 16 w 0), .int a1] G ks ad V sz) (mQi post G ks ad sz) 0 0 (mA ks ad sz) := by
  refine g_met (own := RX9) (by decide) rfl (Nat.le_of_ble_eq_true rfl) ?_
  intro p e s m args below meth c ls hC hsz hr hlk hin hS ha hl
  have hl : lv_has ls 4 [(0, .ref (ad 16 w 0)), (1, .int a1)] := hl
  unfold wp_X9_many at h
  have kT4 : ∀ (x1 : Int32) (x2 : Int32) (x3 : Int32) (V : VS) (H : Heap) (locs : List Loc) (ls : Array Slot), wl_X9_many_4 ks w a1 post x1 x2 x3 V → ST G ks ad V (mA ks ad sz) s.heap H locs → lv_has ls 4 [(0, .ref (ad 16 w 0)), (1, .int x1), (2, .int x2), (3, .int x3)] → W p l e ({ frames := 0, cells := 0, slots := 0, locals := 0 } : Room) s m args below meth c H locs 0 0 (MQ below (mQi post G ks ad sz) args s 0 0 (mA ks ad sz)) (F0 m 4 ls []) := by
    intro x1 x2 x3 V H locs ls h hS hl
    obtain ⟨J, ⟨n, hJ⟩, hb⟩ := h
    induction n using Nat.strongRecOn generalizing x2 x3 V H locs ls with
    | _ n ih =>
      have h := hb n x2 x3 V hJ
      obtain ⟨B4, eB⟩ : ∃ z : Int32 → Int32 → VS → Prop, z = (fun x2 x3 V => ∃ n', n' < n ∧ J n' x2 x3 V) := ⟨_, rfl⟩
      rw [← eB] at h
      have kB4 : ∀ (x2 : Int32) (x3 : Int32) (V : VS) (H : Heap) (locs : List Loc) (ls : Array Slot), B4 x2 x3 V → ST G ks ad V (mA ks ad sz) s.heap H locs → lv_has ls 4 [(0, .ref (ad 16 w 0)), (1, .int x1), (2, .int x2), (3, .int x3)] → W p l e ({ frames := 0, cells := 0, slots := 0, locals := 0 } : Room) s m args below meth c H locs 0 0 (MQ below (mQi post G ks ad sz) args s 0 0 (mA ks ad sz)) (F0 m 4 ls []) := by
        intro x2 x3 V H locs ls h hS hl
        rw [eB] at h
        obtain ⟨n', hn, hJ'⟩ := h
        exact ih n' hn _ _ _ _ _ _ hS hl hJ'
      clear ih hJ hb eB
      unfold wk_X9_many_4 at h
      refine lv_iload_n hC.1 hC.2.1 dX9_many_4 rfl (lv_at hl 3 rfl) ?_
      refine lv_aload_n hC.1 hC.2.1 dX9_many_5 rfl (lv_at hl 0 rfl) ?_
      obtain ⟨hk1, h⟩ := h
      refine gf_16_16 hC hS hk1 wq_1008 dX9_many_6 ?_
      obtain ⟨hk2, h⟩ := h
      refine gn_15_6 hC hS hk2 wq_1056 dX9_many_9 ?_
      refine lv_icmp_ge (tgt := 39) hC.1 hC.2.1 dX9_many_12 (by decide) (fun c10 => ?_) (fun c10 => ?_)
      · have h := h.1 c10
        refine lv_iload_n hC.1 hC.2.1 dX9_many_39 rfl (lv_at hl 2 rfl) ?_
        exact g_iret hC hr hlk hS h dX9_many_40
      · have h := h.2 c10
        refine lv_iload_n hC.1 hC.2.1 dX9_many_15 rfl (lv_at hl 2 rfl) ?_
        refine lv_aload_n hC.1 hC.2.1 dX9_many_16 rfl (lv_at hl 0 rfl) ?_
        refine gf_16_8 hC hS hk1 wq_992 dX9_many_17 ?_
        refine lv_iload_n hC.1 hC.2.1 dX9_many_20 rfl (lv_at hl 3 rfl) ?_
        obtain ⟨hk3, h⟩ := h
        obtain ⟨hx4, h⟩ := h
        refine g_iald hC hS hk3 (by decide) hx4 dX9_many_21 ?_
        refine lv_iload_n hC.1 hC.2.1 dX9_many_22 rfl (lv_at hl 1 rfl) ?_
        refine lv_icmp_ne (tgt := 30) hC.1 hC.2.1 dX9_many_23 (by decide) (fun c9 => ?_) (fun c9 => ?_)
        · have h := h.2 c9
          refine lv_iconst (v := 0) hC.1 hC.2.1 dX9_many_30 (by decide) ?_
          refine lv_iadd hC.1 hC.2.1 dX9_many_31 ?_
          refine lv_topi (fun y7 ey7 => ?_)
          have h := h y7 ey7
          refine lv_istore_n (lv' := [(2, .int y7), (0, .ref (ad 16 w 0)), (1, .int x1), (3, .int x3)]) hC.1 hC.2.1 dX9_many_32 rfl hl (by decide) rfl (fun ls hl => ?_)
          obtain ⟨y8, ey8⟩ : ∃ z : Int32, z = x3 + 1 := ⟨_, rfl⟩
          have h := h y8 ey8
          refine lv_iinc (v := y8) (lv' := [(3, .int y8), (2, .int y7), (0, .ref (ad 16 w 0)), (1, .int x1)]) hC.1 hC.2.1 dX9_many_33 hl (k := 3) rfl (by rw [ey8]; rfl) (by decide) rfl (fun ls hl => ?_)
          refine lv_goto (tgt := 4) hC.1 hC.2.1 dX9_many_36 (by decide) ?_
          exact kB4 _ _ _ _ _ _ h hS (lv_sub hl [2, 3, 1, 0] rfl)
        · have h := h.1 c9
          refine lv_iconst (v := 1) hC.1 hC.2.1 dX9_many_26 (by decide) ?_
          refine lv_goto (tgt := 31) hC.1 hC.2.1 dX9_many_27 (by decide) ?_
          refine lv_iadd hC.1 hC.2.1 dX9_many_31 ?_
          refine lv_topi (fun y5 ey5 => ?_)
          have h := h y5 ey5
          refine lv_istore_n (lv' := [(2, .int y5), (0, .ref (ad 16 w 0)), (1, .int x1), (3, .int x3)]) hC.1 hC.2.1 dX9_many_32 rfl hl (by decide) rfl (fun ls hl => ?_)
          obtain ⟨y6, ey6⟩ : ∃ z : Int32, z = x3 + 1 := ⟨_, rfl⟩
          have h := h y6 ey6
          refine lv_iinc (v := y6) (lv' := [(3, .int y6), (2, .int y5), (0, .ref (ad 16 w 0)), (1, .int x1)]) hC.1 hC.2.1 dX9_many_33 hl (k := 3) rfl (by rw [ey6]; rfl) (by decide) rfl (fun ls hl => ?_)
          refine lv_goto (tgt := 4) hC.1 hC.2.1 dX9_many_36 (by decide) ?_
          exact kB4 _ _ _ _ _ _ h hS (lv_sub hl [2, 3, 1, 0] rfl)
  refine lv_iconst (v := 0) hC.1 hC.2.1 dX9_many_0 (by decide) ?_
  refine lv_istore_n (lv' := [(2, .int 0), (0, .ref (ad 16 w 0)), (1, .int a1)]) hC.1 hC.2.1 dX9_many_1 rfl hl (by decide) rfl (fun ls hl => ?_)
  refine lv_iconst (v := 0) hC.1 hC.2.1 dX9_many_2 (by decide) ?_
  refine lv_istore_n (lv' := [(3, .int 0), (2, .int 0), (0, .ref (ad 16 w 0)), (1, .int a1)]) hC.1 hC.2.1 dX9_many_3 rfl hl (by decide) rfl (fun ls hl => ?_)
  exact kT4 _ _ _ _ _ _ _ h hS (lv_sub hl [2, 3, 1, 0] rfl)
def wk_X9_placeOf_2 (ks : List KY) (w : Nat) (a1 : Int32) (a2 : Int32) (post : Int32 → VS → Prop) (B2 : Int32 → VS → Prop) (x1 : Int32) (x2 : Int32) (x3 : Int32) (V : VS) : Prop := ((16, w, 0) ∈ ks ∧ (30, w, 0) ∈ ks ∧ vp_in x2 24 ∧ ((V 30 w 0 0 x2.toNatClampNeg) ≤ x3 → (post (-1) V)) ∧ (¬ ((V 30 w 0 0 x2.toNatClampNeg) ≤ x3) → ((29, w, 0) ∈ ks ∧ vp_in ((10 * x2) + x3) 240 ∧ ((V 29 w 0 0 ((10 * x2) + x3).toNatClampNeg) = x1 → (post x3 V)) ∧ (¬ ((V 29 w 0 0 ((10 * x2) + x3).toNatClampNeg) = x1) → (∀ y6 : Int32, y6 = x3 + 1 → B2 y6 V)))))
def wl_X9_placeOf_2 (ks : List KY) (w : Nat) (a1 : Int32) (a2 : Int32) (post : Int32 → VS → Prop) (x1 : Int32) (x2 : Int32) (x3 : Int32) (V : VS) : Prop := ∃ J : Nat → Int32 → VS → Prop, (∃ n, J n x3 V) ∧ ∀ (n : Nat) (x3 : Int32) (V : VS), J n x3 V → wk_X9_placeOf_2 ks w a1 a2 post (fun x3 V => ∃ n', n' < n ∧ J n' x3 V) x1 x2 x3 V
def wp_X9_placeOf (ks : List KY) (w : Nat) (a1 : Int32) (a2 : Int32) (V : VS) (post : Int32 → VS → Prop) : Prop := (wl_X9_placeOf_2 ks w a1 a2 post a1 a2 0 V)
set_option maxHeartbeats 4000000 in
set_option maxRecDepth 100000 in
theorem c_X9_placeOf (l : Launch) (G : GG) (ks : List KY) (ad : AD) (w : Nat) (a1 : Int32) (a2 : Int32) (V : VS) (post : Int32 → VS → Prop) (h : wp_X9_placeOf ks w a1 a2 V post) (sz : Nat) : Met l yX9_placeOf (ws_ yX9_placeOf cX9_placeOf 4 (some .int)) ({ frames := 0, cells := 0, slots := 0, locals := 0 }) (mPc [.ref (ad 16 w 0), .int a1, .int a2] G ks ad V sz) (mQi post G ks ad sz) 0 0 (mA ks ad sz) := by
  refine g_met (own := RX9) (by decide) rfl (Nat.le_of_ble_eq_true rfl) ?_
  intro p e s m args below meth c ls hC hsz hr hlk hin hS ha hl
  have hl : lv_has ls 4 [(0, .ref (ad 16 w 0)), (1, .int a1), (2, .int a2)] := hl
  unfold wp_X9_placeOf at h
  have kT2 : ∀ (x1 : Int32) (x2 : Int32) (x3 : Int32) (V : VS) (H : Heap) (locs : List Loc) (ls : Array Slot), wl_X9_placeOf_2 ks w a1 a2 post x1 x2 x3 V → ST G ks ad V (mA ks ad sz) s.heap H locs → lv_has ls 4 [(0, .ref (ad 16 w 0)), (1, .int x1), (2, .int x2), (3, .int x3)] → W p l e ({ frames := 0, cells := 0, slots := 0, locals := 0 } : Room) s m args below meth c H locs 0 0 (MQ below (mQi post G ks ad sz) args s 0 0 (mA ks ad sz)) (F0 m 2 ls []) := by
    intro x1 x2 x3 V H locs ls h hS hl
    obtain ⟨J, ⟨n, hJ⟩, hb⟩ := h
    induction n using Nat.strongRecOn generalizing x3 V H locs ls with
    | _ n ih =>
      have h := hb n x3 V hJ
      obtain ⟨B2, eB⟩ : ∃ z : Int32 → VS → Prop, z = (fun x3 V => ∃ n', n' < n ∧ J n' x3 V) := ⟨_, rfl⟩
      rw [← eB] at h
      have kB2 : ∀ (x3 : Int32) (V : VS) (H : Heap) (locs : List Loc) (ls : Array Slot), B2 x3 V → ST G ks ad V (mA ks ad sz) s.heap H locs → lv_has ls 4 [(0, .ref (ad 16 w 0)), (1, .int x1), (2, .int x2), (3, .int x3)] → W p l e ({ frames := 0, cells := 0, slots := 0, locals := 0 } : Room) s m args below meth c H locs 0 0 (MQ below (mQi post G ks ad sz) args s 0 0 (mA ks ad sz)) (F0 m 2 ls []) := by
        intro x3 V H locs ls h hS hl
        rw [eB] at h
        obtain ⟨n', hn, hJ'⟩ := h
        exact ih n' hn _ _ _ _ _ hS hl hJ'
      clear ih hJ hb eB
      unfold wk_X9_placeOf_2 at h
      refine lv_iload_n hC.1 hC.2.1 dX9_placeOf_2 rfl (lv_at hl 3 rfl) ?_
      refine lv_aload_n hC.1 hC.2.1 dX9_placeOf_3 rfl (lv_at hl 0 rfl) ?_
      obtain ⟨hk1, h⟩ := h
      refine gf_16_12 hC hS hk1 wq_1000 dX9_placeOf_4 ?_
      refine lv_iload_n hC.1 hC.2.1 dX9_placeOf_7 rfl (lv_at hl 2 rfl) ?_
      obtain ⟨hk2, h⟩ := h
      obtain ⟨hx3, h⟩ := h
      refine g_iald hC hS hk2 (by decide) hx3 dX9_placeOf_8 ?_
      refine lv_icmp_ge (tgt := 35) hC.1 hC.2.1 dX9_placeOf_9 (by decide) (fun c8 => ?_) (fun c8 => ?_)
      · have h := h.1 c8
        refine lv_iconst (v := (-1)) hC.1 hC.2.1 dX9_placeOf_35 (by decide) ?_
        exact g_iret hC hr hlk hS h dX9_placeOf_36
      · have h := h.2 c8
        refine lv_aload_n hC.1 hC.2.1 dX9_placeOf_12 rfl (lv_at hl 0 rfl) ?_
        refine gf_16_11 hC hS hk1 wq_998 dX9_placeOf_13 ?_
        refine lv_bipush (v := 10) hC.1 hC.2.1 dX9_placeOf_16 (by decide) ?_
        refine lv_iload_n hC.1 hC.2.1 dX9_placeOf_18 rfl (lv_at hl 2 rfl) ?_
        refine lv_imul hC.1 hC.2.1 dX9_placeOf_19 ?_
        refine lv_iload_n hC.1 hC.2.1 dX9_placeOf_20 rfl (lv_at hl 3 rfl) ?_
        refine lv_iadd hC.1 hC.2.1 dX9_placeOf_21 ?_
        obtain ⟨hk4, h⟩ := h
        obtain ⟨hx5, h⟩ := h
        refine g_iald hC hS hk4 (by decide) hx5 dX9_placeOf_22 ?_
        refine lv_iload_n hC.1 hC.2.1 dX9_placeOf_23 rfl (lv_at hl 1 rfl) ?_
        refine lv_icmp_ne (tgt := 29) hC.1 hC.2.1 dX9_placeOf_24 (by decide) (fun c7 => ?_) (fun c7 => ?_)
        · have h := h.2 c7
          obtain ⟨y6, ey6⟩ : ∃ z : Int32, z = x3 + 1 := ⟨_, rfl⟩
          have h := h y6 ey6
          refine lv_iinc (v := y6) (lv' := [(3, .int y6), (0, .ref (ad 16 w 0)), (1, .int x1), (2, .int x2)]) hC.1 hC.2.1 dX9_placeOf_29 hl (k := 3) rfl (by rw [ey6]; rfl) (by decide) rfl (fun ls hl => ?_)
          refine lv_goto (tgt := 2) hC.1 hC.2.1 dX9_placeOf_32 (by decide) ?_
          exact kB2 _ _ _ _ _ h hS (lv_sub hl [1, 2, 3, 0] rfl)
        · have h := h.1 c7
          refine lv_iload_n hC.1 hC.2.1 dX9_placeOf_27 rfl (lv_at hl 3 rfl) ?_
          exact g_iret hC hr hlk hS h dX9_placeOf_28
  refine lv_iconst (v := 0) hC.1 hC.2.1 dX9_placeOf_0 (by decide) ?_
  refine lv_istore_n (lv' := [(3, .int 0), (0, .ref (ad 16 w 0)), (1, .int a1), (2, .int a2)]) hC.1 hC.2.1 dX9_placeOf_1 rfl hl (by decide) rfl (fun ls hl => ?_)
  exact kT2 _ _ _ _ _ _ _ h hS (lv_sub hl [1, 2, 3, 0] rfl)
def wk_X9_strike_17 (ks : List KY) (w : Nat) (a1 : Int32) (a2 : Int32) (post : VS → Prop) (B17 : Int32 → VS → Prop) (x1 : Int32) (x3 : Int32) (V : VS) : Prop := ((16, w, 0) ∈ ks ∧ (30, w, 0) ∈ ks ∧ vp_in x1 24 ∧ (((10 * x1) + (V 30 w 0 0 x1.toNatClampNeg)) ≤ x3 → (post V)) ∧ (¬ (((10 * x1) + (V 30 w 0 0 x1.toNatClampNeg)) ≤ x3) → ((29, w, 0) ∈ ks ∧ vp_in (x3 + 1) 240 ∧ vp_in x3 240 ∧ ∀ V7 : VS, V7 = vup V 29 w 0 0 x3.toNatClampNeg (V 29 w 0 0 (x3 + 1).toNatClampNeg) → ∀ y8 : Int32, y8 = x3 + 1 → B17 y8 V7)))
def wl_X9_strike_17 (ks : List KY) (w : Nat) (a1 : Int32) (a2 : Int32) (post : VS → Prop) (x1 : Int32) (x3 : Int32) (V : VS) : Prop := ∃ J : Nat → Int32 → VS → Prop, (∃ n, J n x3 V) ∧ ∀ (n : Nat) (x3 : Int32) (V : VS), J n x3 V → wk_X9_strike_17 ks w a1 a2 post (fun x3 V => ∃ n', n' < n ∧ J n' x3 V) x1 x3 V
def wp_X9_strike (ks : List KY) (w : Nat) (a1 : Int32) (a2 : Int32) (V : VS) (post : VS → Prop) : Prop := ((16, w, 0) ∈ ks ∧ (30, w, 0) ∈ ks ∧ vp_in a1 24 ∧ ∀ V13 : VS, V13 = vup V 30 w 0 0 a1.toNatClampNeg ((V 30 w 0 0 a1.toNatClampNeg) - 1) → ∀ y14 : Int32, y14 = (10 * a1) + a2 → wl_X9_strike_17 ks w a1 a2 post a1 y14 V13)
set_option maxHeartbeats 4000000 in
set_option maxRecDepth 100000 in
theorem c_X9_strike (l : Launch) (G : GG) (ks : List KY) (ad : AD) (w : Nat) (a1 : Int32) (a2 : Int32) (V : VS) (post : VS → Prop) (h : wp_X9_strike ks w a1 a2 V post) (sz : Nat) : Met l yX9_strike (ws_ yX9_strike cX9_strike 4 none) ({ frames := 0, cells := 0, slots := 0, locals := 0 }) (mPc [.ref (ad 16 w 0), .int a1, .int a2] G ks ad V sz) (mQv post G ks ad sz) 0 0 (mA ks ad sz) := by
  refine g_met (own := RX9) (by decide) rfl (Nat.le_of_ble_eq_true rfl) ?_
  intro p e s m args below meth c ls hC hsz hr hlk hin hS ha hl
  have hl : lv_has ls 4 [(0, .ref (ad 16 w 0)), (1, .int a1), (2, .int a2)] := hl
  unfold wp_X9_strike at h
  have kT17 : ∀ (x1 : Int32) (x3 : Int32) (V : VS) (H : Heap) (locs : List Loc) (ls : Array Slot), wl_X9_strike_17 ks w a1 a2 post x1 x3 V → ST G ks ad V (mA ks ad sz) s.heap H locs → lv_has ls 4 [(0, .ref (ad 16 w 0)), (1, .int x1), (3, .int x3)] → W p l e ({ frames := 0, cells := 0, slots := 0, locals := 0 } : Room) s m args below meth c H locs 0 0 (MQ below (mQv post G ks ad sz) args s 0 0 (mA ks ad sz)) (F0 m 17 ls []) := by
    intro x1 x3 V H locs ls h hS hl
    obtain ⟨J, ⟨n, hJ⟩, hb⟩ := h
    induction n using Nat.strongRecOn generalizing x3 V H locs ls with
    | _ n ih =>
      have h := hb n x3 V hJ
      obtain ⟨B17, eB⟩ : ∃ z : Int32 → VS → Prop, z = (fun x3 V => ∃ n', n' < n ∧ J n' x3 V) := ⟨_, rfl⟩
      rw [← eB] at h
      have kB17 : ∀ (x3 : Int32) (V : VS) (H : Heap) (locs : List Loc) (ls : Array Slot), B17 x3 V → ST G ks ad V (mA ks ad sz) s.heap H locs → lv_has ls 4 [(0, .ref (ad 16 w 0)), (1, .int x1), (3, .int x3)] → W p l e ({ frames := 0, cells := 0, slots := 0, locals := 0 } : Room) s m args below meth c H locs 0 0 (MQ below (mQv post G ks ad sz) args s 0 0 (mA ks ad sz)) (F0 m 17 ls []) := by
        intro x3 V H locs ls h hS hl
        rw [eB] at h
        obtain ⟨n', hn, hJ'⟩ := h
        exact ih n' hn _ _ _ _ _ hS hl hJ'
      clear ih hJ hb eB
      unfold wk_X9_strike_17 at h
      refine lv_iload_n hC.1 hC.2.1 dX9_strike_17 rfl (lv_at hl 2 rfl) ?_
      refine lv_bipush (v := 10) hC.1 hC.2.1 dX9_strike_18 (by decide) ?_
      refine lv_iload_n hC.1 hC.2.1 dX9_strike_20 rfl (lv_at hl 1 rfl) ?_
      refine lv_imul hC.1 hC.2.1 dX9_strike_21 ?_
      refine lv_aload_n hC.1 hC.2.1 dX9_strike_22 rfl (lv_at hl 0 rfl) ?_
      obtain ⟨hk1, h⟩ := h
      refine gf_16_12 hC hS hk1 wq_1000 dX9_strike_23 ?_
      refine lv_iload_n hC.1 hC.2.1 dX9_strike_26 rfl (lv_at hl 1 rfl) ?_
      obtain ⟨hk2, h⟩ := h
      obtain ⟨hx3, h⟩ := h
      refine g_iald hC hS hk2 (by decide) hx3 dX9_strike_27 ?_
      refine lv_iadd hC.1 hC.2.1 dX9_strike_28 ?_
      refine lv_icmp_ge (tgt := 52) hC.1 hC.2.1 dX9_strike_29 (by decide) (fun c9 => ?_) (fun c9 => ?_)
      · have h := h.1 c9
        exact g_vret hC hr hlk hS h dX9_strike_52
      · have h := h.2 c9
        refine lv_aload_n hC.1 hC.2.1 dX9_strike_32 rfl (lv_at hl 0 rfl) ?_
        refine gf_16_11 hC hS hk1 wq_998 dX9_strike_33 ?_
        refine lv_iload_n hC.1 hC.2.1 dX9_strike_36 rfl (lv_at hl 2 rfl) ?_
        refine lv_aload_n hC.1 hC.2.1 dX9_strike_37 rfl (lv_at hl 0 rfl) ?_
        refine gf_16_11 hC hS hk1 wq_998 dX9_strike_38 ?_
        refine lv_iload_n hC.1 hC.2.1 dX9_strike_41 rfl (lv_at hl 2 rfl) ?_
        refine lv_iconst (v := 1) hC.1 hC.2.1 dX9_strike_42 (by decide) ?_
        refine lv_iadd hC.1 hC.2.1 dX9_strike_43 ?_
        obtain ⟨hk4, h⟩ := h
        obtain ⟨hx5, h⟩ := h
        refine g_iald hC hS hk4 (by decide) hx5 dX9_strike_44 ?_
        obtain ⟨hx6, h⟩ := h
        refine g_iast hC hS hk4 (by decide) hx6 dX9_strike_45 (fun H locs hS => ?_)
        obtain ⟨V7, eV7⟩ : ∃ z : VS, z = vup V 29 w 0 0 x3.toNatClampNeg (V 29 w 0 0 (x3 + 1).toNatClampNeg) := ⟨_, rfl⟩
        rw [← eV7] at hS
        have h := h V7 eV7
        obtain ⟨y8, ey8⟩ : ∃ z : Int32, z = x3 + 1 := ⟨_, rfl⟩
        have h := h y8 ey8
        refine lv_iinc (v := y8) (lv' := [(3, .int y8), (0, .ref (ad 16 w 0)), (1, .int x1)]) hC.1 hC.2.1 dX9_strike_46 hl (k := 2) rfl (by rw [ey8]; rfl) (by decide) rfl (fun ls hl => ?_)
        refine lv_goto (tgt := 17) hC.1 hC.2.1 dX9_strike_49 (by decide) ?_
        exact kB17 _ _ _ _ _ h hS (lv_sub hl [1, 2, 0] rfl)
  refine lv_aload_n hC.1 hC.2.1 dX9_strike_0 rfl (lv_at hl 0 rfl) ?_
  obtain ⟨hk10, h⟩ := h
  refine gf_16_12 hC hS hk10 wq_1000 dX9_strike_1 ?_
  refine lv_iload_n hC.1 hC.2.1 dX9_strike_4 rfl (lv_at hl 1 rfl) ?_
  refine lv_dup2_11 hC.1 hC.2.1 dX9_strike_5 rfl rfl ?_
  obtain ⟨hk11, h⟩ := h
  obtain ⟨hx12, h⟩ := h
  refine g_iald hC hS hk11 (by decide) hx12 dX9_strike_6 ?_
  refine lv_iconst (v := 1) hC.1 hC.2.1 dX9_strike_7 (by decide) ?_
  refine lv_isub hC.1 hC.2.1 dX9_strike_8 ?_
  refine g_iast hC hS hk11 (by decide) hx12 dX9_strike_9 (fun H locs hS => ?_)
  obtain ⟨V13, eV13⟩ : ∃ z : VS, z = vup V 30 w 0 0 a1.toNatClampNeg ((V 30 w 0 0 a1.toNatClampNeg) - 1) := ⟨_, rfl⟩
  rw [← eV13] at hS
  have h := h V13 eV13
  refine lv_bipush (v := 10) hC.1 hC.2.1 dX9_strike_10 (by decide) ?_
  refine lv_iload_n hC.1 hC.2.1 dX9_strike_12 rfl (lv_at hl 1 rfl) ?_
  refine lv_imul hC.1 hC.2.1 dX9_strike_13 ?_
  refine lv_iload_n hC.1 hC.2.1 dX9_strike_14 rfl (lv_at hl 2 rfl) ?_
  refine lv_iadd hC.1 hC.2.1 dX9_strike_15 ?_
  refine lv_topi (fun y14 ey14 => ?_)
  have h := h y14 ey14
  refine lv_istore_n (lv' := [(3, .int y14), (0, .ref (ad 16 w 0)), (1, .int a1), (2, .int a2)]) hC.1 hC.2.1 dX9_strike_16 rfl hl (by decide) rfl (fun ls hl => ?_)
  exact kT17 _ _ _ _ _ _ h hS (lv_sub hl [1, 2, 0] rfl)
def wp_X9_lend (ks : List KY) (w : Nat) (a1 : Int32) (a2 : Int32) (V : VS) (post : VS → Prop) : Prop := ((16, w, 0) ∈ ks ∧ (26, w, 0) ∈ ks ∧ vp_in a2 24 ∧ ∀ V4 : VS, V4 = vup V 26 w 0 0 a2.toNatClampNeg a1 → (27, w, 0) ∈ ks ∧ ∀ V6 : VS, V6 = vup V4 27 w 0 0 a2.toNatClampNeg (V4 16 w 0 0 0) → (28, w, 0) ∈ ks ∧ ∀ V8 : VS, V8 = vup V6 28 w 0 0 a2.toNatClampNeg ((V6 28 w 0 0 a2.toNatClampNeg) + 1) → (33, w, 0) ∈ ks ∧ vp_in a1 10 ∧ ∀ V11 : VS, V11 = vup V8 33 w 0 0 a1.toNatClampNeg ((V8 33 w 0 0 a1.toNatClampNeg) + 1) → (31, w, 0) ∈ ks ∧ ∀ V13 : VS, V13 = vup V11 31 w 0 0 a1.toNatClampNeg ((V11 31 w 0 0 a1.toNatClampNeg) ||| (1 <<< (a2 &&& 31))) → ∀ V14 : VS, V14 = vup V13 16 w 0 2 0 ((V13 16 w 0 2 0) + 1) → post V14)
set_option maxHeartbeats 4000000 in
set_option maxRecDepth 100000 in
theorem c_X9_lend (l : Launch) (G : GG) (ks : List KY) (ad : AD) (w : Nat) (a1 : Int32) (a2 : Int32) (V : VS) (post : VS → Prop) (h : wp_X9_lend ks w a1 a2 V post) (sz : Nat) : Met l yX9_lend (ws_ yX9_lend cX9_lend 3 none) ({ frames := 0, cells := 0, slots := 0, locals := 0 }) (mPc [.ref (ad 16 w 0), .int a1, .int a2] G ks ad V sz) (mQv post G ks ad sz) 0 0 (mA ks ad sz) := by
  refine g_met (own := RX9) (by decide) rfl (Nat.le_of_ble_eq_true rfl) ?_
  intro p e s m args below meth c ls hC hsz hr hlk hin hS ha hl
  have hl : lv_has ls 3 [(0, .ref (ad 16 w 0)), (1, .int a1), (2, .int a2)] := hl
  unfold wp_X9_lend at h
  refine lv_aload_n hC.1 hC.2.1 dX9_lend_0 rfl (lv_at hl 0 rfl) ?_
  obtain ⟨hk1, h⟩ := h
  refine gf_16_8 hC hS hk1 wq_992 dX9_lend_1 ?_
  refine lv_iload_n hC.1 hC.2.1 dX9_lend_4 rfl (lv_at hl 2 rfl) ?_
  refine lv_iload_n hC.1 hC.2.1 dX9_lend_5 rfl (lv_at hl 1 rfl) ?_
  obtain ⟨hk2, h⟩ := h
  obtain ⟨hx3, h⟩ := h
  refine g_iast hC hS hk2 (by decide) hx3 dX9_lend_6 (fun H locs hS => ?_)
  obtain ⟨V4, eV4⟩ : ∃ z : VS, z = vup V 26 w 0 0 a2.toNatClampNeg a1 := ⟨_, rfl⟩
  rw [← eV4] at hS
  have h := h V4 eV4
  refine lv_aload_n hC.1 hC.2.1 dX9_lend_7 rfl (lv_at hl 0 rfl) ?_
  refine gf_16_9 hC hS hk1 wq_994 dX9_lend_8 ?_
  refine lv_iload_n hC.1 hC.2.1 dX9_lend_11 rfl (lv_at hl 2 rfl) ?_
  refine lv_aload_n hC.1 hC.2.1 dX9_lend_12 rfl (lv_at hl 0 rfl) ?_
  refine gf_16_0 hC hS hk1 wq_976 dX9_lend_13 ?_
  obtain ⟨hk5, h⟩ := h
  refine g_iast hC hS hk5 (by decide) hx3 dX9_lend_16 (fun H locs hS => ?_)
  obtain ⟨V6, eV6⟩ : ∃ z : VS, z = vup V4 27 w 0 0 a2.toNatClampNeg (V4 16 w 0 0 0) := ⟨_, rfl⟩
  rw [← eV6] at hS
  have h := h V6 eV6
  refine lv_aload_n hC.1 hC.2.1 dX9_lend_17 rfl (lv_at hl 0 rfl) ?_
  refine gf_16_10 hC hS hk1 wq_996 dX9_lend_18 ?_
  refine lv_iload_n hC.1 hC.2.1 dX9_lend_21 rfl (lv_at hl 2 rfl) ?_
  refine lv_dup2_11 hC.1 hC.2.1 dX9_lend_22 rfl rfl ?_
  obtain ⟨hk7, h⟩ := h
  refine g_iald hC hS hk7 (by decide) hx3 dX9_lend_23 ?_
  refine lv_iconst (v := 1) hC.1 hC.2.1 dX9_lend_24 (by decide) ?_
  refine lv_iadd hC.1 hC.2.1 dX9_lend_25 ?_
  refine g_iast hC hS hk7 (by decide) hx3 dX9_lend_26 (fun H locs hS => ?_)
  obtain ⟨V8, eV8⟩ : ∃ z : VS, z = vup V6 28 w 0 0 a2.toNatClampNeg ((V6 28 w 0 0 a2.toNatClampNeg) + 1) := ⟨_, rfl⟩
  rw [← eV8] at hS
  have h := h V8 eV8
  refine lv_aload_n hC.1 hC.2.1 dX9_lend_27 rfl (lv_at hl 0 rfl) ?_
  refine gf_16_15 hC hS hk1 wq_1006 dX9_lend_28 ?_
  refine lv_iload_n hC.1 hC.2.1 dX9_lend_31 rfl (lv_at hl 1 rfl) ?_
  refine lv_dup2_11 hC.1 hC.2.1 dX9_lend_32 rfl rfl ?_
  obtain ⟨hk9, h⟩ := h
  obtain ⟨hx10, h⟩ := h
  refine g_iald hC hS hk9 (by decide) hx10 dX9_lend_33 ?_
  refine lv_iconst (v := 1) hC.1 hC.2.1 dX9_lend_34 (by decide) ?_
  refine lv_iadd hC.1 hC.2.1 dX9_lend_35 ?_
  refine g_iast hC hS hk9 (by decide) hx10 dX9_lend_36 (fun H locs hS => ?_)
  obtain ⟨V11, eV11⟩ : ∃ z : VS, z = vup V8 33 w 0 0 a1.toNatClampNeg ((V8 33 w 0 0 a1.toNatClampNeg) + 1) := ⟨_, rfl⟩
  rw [← eV11] at hS
  have h := h V11 eV11
  refine lv_aload_n hC.1 hC.2.1 dX9_lend_37 rfl (lv_at hl 0 rfl) ?_
  refine gf_16_13 hC hS hk1 wq_1002 dX9_lend_38 ?_
  refine lv_iload_n hC.1 hC.2.1 dX9_lend_41 rfl (lv_at hl 1 rfl) ?_
  refine lv_dup2_11 hC.1 hC.2.1 dX9_lend_42 rfl rfl ?_
  obtain ⟨hk12, h⟩ := h
  refine g_iald hC hS hk12 (by decide) hx10 dX9_lend_43 ?_
  refine lv_iconst (v := 1) hC.1 hC.2.1 dX9_lend_44 (by decide) ?_
  refine lv_iload_n hC.1 hC.2.1 dX9_lend_45 rfl (lv_at hl 2 rfl) ?_
  refine lv_ishl hC.1 hC.2.1 dX9_lend_46 ?_
  refine lv_ior hC.1 hC.2.1 dX9_lend_47 ?_
  refine g_iast hC hS hk12 (by decide) hx10 dX9_lend_48 (fun H locs hS => ?_)
  obtain ⟨V13, eV13⟩ : ∃ z : VS, z = vup V11 31 w 0 0 a1.toNatClampNeg ((V11 31 w 0 0 a1.toNatClampNeg) ||| (1 <<< (a2 &&& 31))) := ⟨_, rfl⟩
  rw [← eV13] at hS
  have h := h V13 eV13
  refine lv_aload_n hC.1 hC.2.1 dX9_lend_49 rfl (lv_at hl 0 rfl) ?_
  refine lv_dup hC.1 hC.2.1 dX9_lend_50 rfl ?_
  refine gf_16_2 hC hS hk1 wq_980 dX9_lend_51 ?_
  refine lv_iconst (v := 1) hC.1 hC.2.1 dX9_lend_54 (by decide) ?_
  refine lv_iadd hC.1 hC.2.1 dX9_lend_55 ?_
  refine pf_16_2 hC hS hk1 wq_980 dX9_lend_56 (fun H locs hS => ?_)
  obtain ⟨V14, eV14⟩ : ∃ z : VS, z = vup V13 16 w 0 2 0 ((V13 16 w 0 2 0) + 1) := ⟨_, rfl⟩
  rw [← eV14] at hS
  have h := h V14 eV14
  exact g_vret hC hr hlk hS h dX9_lend_59
def wk_X9_choose_2 (ks : List KY) (w : Nat) (a1 : Int32) (post : VS → Prop) (B2 : Int32 → VS → Prop) (x1 : Int32) (x2 : Int32) (V : VS) : Prop := ((16, w, 0) ∈ ks ∧ (15, 0, 0) ∈ ks ∧ ((V 15 0 0 6 0) ≤ x2 → (post V)) ∧ (¬ ((V 15 0 0 6 0) ≤ x2) → ((26, w, 0) ∈ ks ∧ vp_in x2 24 ∧ ((V 26 w 0 0 x2.toNatClampNeg) = (-1) → ((19, 0, 0) ∈ ks ∧ (20, 0, 0) ∈ ks ∧ vp_in ((3 * x1) + 1) 30 ∧ ((V 19 0 0 0 x2.toNatClampNeg) = (V 20 0 0 0 ((3 * x1) + 1).toNatClampNeg) → ((30, w, 0) ∈ ks ∧ ((0 : Int32) < (V 30 w 0 0 x2.toNatClampNeg) → (∀ y9 : Int32, y9 = x2 + 1 → B2 y9 V)) ∧ (¬ ((0 : Int32) < (V 30 w 0 0 x2.toNatClampNeg)) → ((31, w, 0) ∈ ks ∧ vp_in x1 10 ∧ ((((V 31 w 0 0 x1.toNatClampNeg) >>> (x2 &&& 31)) &&& 1) = 1 → (∀ y12 : Int32, y12 = x2 + 1 → B2 y12 V)) ∧ (¬ ((((V 31 w 0 0 x1.toNatClampNeg) >>> (x2 &&& 31)) &&& 1) = 1) → (wp_X9_lend ks w x1 x2 V (fun V13 => (post V13)))))))) ∧ (¬ ((V 19 0 0 0 x2.toNatClampNeg) = (V 20 0 0 0 ((3 * x1) + 1).toNatClampNeg)) → (∀ y16 : Int32, y16 = x2 + 1 → B2 y16 V)))) ∧ (¬ ((V 26 w 0 0 x2.toNatClampNeg) = (-1)) → (∀ y18 : Int32, y18 = x2 + 1 → B2 y18 V)))))
def wl_X9_choose_2 (ks : List KY) (w : Nat) (a1 : Int32) (post : VS → Prop) (x1 : Int32) (x2 : Int32) (V : VS) : Prop := ∃ J : Nat → Int32 → VS → Prop, (∃ n, J n x2 V) ∧ ∀ (n : Nat) (x2 : Int32) (V : VS), J n x2 V → wk_X9_choose_2 ks w a1 post (fun x2 V => ∃ n', n' < n ∧ J n' x2 V) x1 x2 V
def wp_X9_choose (ks : List KY) (w : Nat) (a1 : Int32) (V : VS) (post : VS → Prop) : Prop := (wl_X9_choose_2 ks w a1 post a1 0 V)
set_option maxHeartbeats 4000000 in
set_option maxRecDepth 100000 in
theorem c_X9_choose (l : Launch) (G : GG) (ks : List KY) (ad : AD) (w : Nat) (a1 : Int32) (V : VS) (post : VS → Prop) (h : wp_X9_choose ks w a1 V post) (sz : Nat) : Met l yX9_choose (ws_ yX9_choose cX9_choose 3 none) ({ frames := 1, cells := 0, slots := 0, locals := 22 }) (mPc [.ref (ad 16 w 0), .int a1] G ks ad V sz) (mQv post G ks ad sz) 0 0 (mA ks ad sz) := by
  refine g_met (own := RX9) (by decide) rfl (Nat.le_of_ble_eq_true rfl) ?_
  intro p e s m args below meth c ls hC hsz hr hlk hin hS ha hl
  have hl : lv_has ls 3 [(0, .ref (ad 16 w 0)), (1, .int a1)] := hl
  unfold wp_X9_choose at h
  have kT2 : ∀ (x1 : Int32) (x2 : Int32) (V : VS) (H : Heap) (locs : List Loc) (ls : Array Slot), wl_X9_choose_2 ks w a1 post x1 x2 V → ST G ks ad V (mA ks ad sz) s.heap H locs → lv_has ls 3 [(0, .ref (ad 16 w 0)), (1, .int x1), (2, .int x2)] → W p l e ({ frames := 1, cells := 0, slots := 0, locals := 22 } : Room) s m args below meth c H locs 0 0 (MQ below (mQv post G ks ad sz) args s 0 0 (mA ks ad sz)) (F0 m 2 ls []) := by
    intro x1 x2 V H locs ls h hS hl
    obtain ⟨J, ⟨n, hJ⟩, hb⟩ := h
    induction n using Nat.strongRecOn generalizing x2 V H locs ls with
    | _ n ih =>
      have h := hb n x2 V hJ
      obtain ⟨B2, eB⟩ : ∃ z : Int32 → VS → Prop, z = (fun x2 V => ∃ n', n' < n ∧ J n' x2 V) := ⟨_, rfl⟩
      rw [← eB] at h
      have kB2 : ∀ (x2 : Int32) (V : VS) (H : Heap) (locs : List Loc) (ls : Array Slot), B2 x2 V → ST G ks ad V (mA ks ad sz) s.heap H locs → lv_has ls 3 [(0, .ref (ad 16 w 0)), (1, .int x1), (2, .int x2)] → W p l e ({ frames := 1, cells := 0, slots := 0, locals := 22 } : Room) s m args below meth c H locs 0 0 (MQ below (mQv post G ks ad sz) args s 0 0 (mA ks ad sz)) (F0 m 2 ls []) := by
        intro x2 V H locs ls h hS hl
        rw [eB] at h
        obtain ⟨n', hn, hJ'⟩ := h
        exact ih n' hn _ _ _ _ _ hS hl hJ'
      clear ih hJ hb eB
      unfold wk_X9_choose_2 at h
      refine lv_iload_n hC.1 hC.2.1 dX9_choose_2 rfl (lv_at hl 2 rfl) ?_
      refine lv_aload_n hC.1 hC.2.1 dX9_choose_3 rfl (lv_at hl 0 rfl) ?_
      obtain ⟨hk1, h⟩ := h
      refine gf_16_16 hC hS hk1 wq_1008 dX9_choose_4 ?_
      obtain ⟨hk2, h⟩ := h
      refine gn_15_6 hC hS hk2 wq_1056 dX9_choose_7 ?_
      refine lv_icmp_ge (tgt := 87) hC.1 hC.2.1 dX9_choose_10 (by decide) (fun c20 => ?_) (fun c20 => ?_)
      · have h := h.1 c20
        exact g_vret hC hr hlk hS h dX9_choose_87
      · have h := h.2 c20
        refine lv_aload_n hC.1 hC.2.1 dX9_choose_13 rfl (lv_at hl 0 rfl) ?_
        refine gf_16_8 hC hS hk1 wq_992 dX9_choose_14 ?_
        refine lv_iload_n hC.1 hC.2.1 dX9_choose_17 rfl (lv_at hl 2 rfl) ?_
        obtain ⟨hk3, h⟩ := h
        obtain ⟨hx4, h⟩ := h
        refine g_iald hC hS hk3 (by decide) hx4 dX9_choose_18 ?_
        refine lv_iconst (v := (-1)) hC.1 hC.2.1 dX9_choose_19 (by decide) ?_
        refine lv_icmp_ne (tgt := 81) hC.1 hC.2.1 dX9_choose_20 (by decide) (fun c19 => ?_) (fun c19 => ?_)
        · have h := h.2 c19
          obtain ⟨y18, ey18⟩ : ∃ z : Int32, z = x2 + 1 := ⟨_, rfl⟩
          have h := h y18 ey18
          refine lv_iinc (v := y18) (lv' := [(2, .int y18), (0, .ref (ad 16 w 0)), (1, .int x1)]) hC.1 hC.2.1 dX9_choose_81 hl (k := 2) rfl (by rw [ey18]; rfl) (by decide) rfl (fun ls hl => ?_)
          refine lv_goto (tgt := 2) hC.1 hC.2.1 dX9_choose_84 (by decide) ?_
          exact kB2 _ _ _ _ _ h hS (lv_sub hl [1, 2, 0] rfl)
        · have h := h.1 c19
          refine lv_aload_n hC.1 hC.2.1 dX9_choose_23 rfl (lv_at hl 0 rfl) ?_
          refine gf_16_16 hC hS hk1 wq_1008 dX9_choose_24 ?_
          refine gn_15_7 hC hS hk2 wq_1058 dX9_choose_27 ?_
          refine lv_iload_n hC.1 hC.2.1 dX9_choose_30 rfl (lv_at hl 2 rfl) ?_
          obtain ⟨hk5, h⟩ := h
          refine g_iald hC hS hk5 (by decide) hx4 dX9_choose_31 ?_
          refine lv_aload_n hC.1 hC.2.1 dX9_choose_32 rfl (lv_at hl 0 rfl) ?_
          refine gf_16_16 hC hS hk1 wq_1008 dX9_choose_33 ?_
          refine gn_15_9 hC hS hk2 wq_1062 dX9_choose_36 ?_
          refine lv_iconst (v := 3) hC.1 hC.2.1 dX9_choose_39 (by decide) ?_
          refine lv_iload_n hC.1 hC.2.1 dX9_choose_40 rfl (lv_at hl 1 rfl) ?_
          refine lv_imul hC.1 hC.2.1 dX9_choose_41 ?_
          refine lv_iconst (v := 1) hC.1 hC.2.1 dX9_choose_42 (by decide) ?_
          refine lv_iadd hC.1 hC.2.1 dX9_choose_43 ?_
          obtain ⟨hk6, h⟩ := h
          obtain ⟨hx7, h⟩ := h
          refine g_iald hC hS hk6 (by decide) hx7 dX9_choose_44 ?_
          refine lv_icmp_ne (tgt := 81) hC.1 hC.2.1 dX9_choose_45 (by decide) (fun c17 => ?_) (fun c17 => ?_)
          · have h := h.2 c17
            obtain ⟨y16, ey16⟩ : ∃ z : Int32, z = x2 + 1 := ⟨_, rfl⟩
            have h := h y16 ey16
            refine lv_iinc (v := y16) (lv' := [(2, .int y16), (0, .ref (ad 16 w 0)), (1, .int x1)]) hC.1 hC.2.1 dX9_choose_81 hl (k := 2) rfl (by rw [ey16]; rfl) (by decide) rfl (fun ls hl => ?_)
            refine lv_goto (tgt := 2) hC.1 hC.2.1 dX9_choose_84 (by decide) ?_
            exact kB2 _ _ _ _ _ h hS (lv_sub hl [1, 2, 0] rfl)
          · have h := h.1 c17
            refine lv_aload_n hC.1 hC.2.1 dX9_choose_48 rfl (lv_at hl 0 rfl) ?_
            refine gf_16_12 hC hS hk1 wq_1000 dX9_choose_49 ?_
            refine lv_iload_n hC.1 hC.2.1 dX9_choose_52 rfl (lv_at hl 2 rfl) ?_
            obtain ⟨hk8, h⟩ := h
            refine g_iald hC hS hk8 (by decide) hx4 dX9_choose_53 ?_
            refine lv_if_gt (tgt := 81) hC.1 hC.2.1 dX9_choose_54 (by decide) (fun c15 => ?_) (fun c15 => ?_)
            · have h := h.1 c15
              obtain ⟨y9, ey9⟩ : ∃ z : Int32, z = x2 + 1 := ⟨_, rfl⟩
              have h := h y9 ey9
              refine lv_iinc (v := y9) (lv' := [(2, .int y9), (0, .ref (ad 16 w 0)), (1, .int x1)]) hC.1 hC.2.1 dX9_choose_81 hl (k := 2) rfl (by rw [ey9]; rfl) (by decide) rfl (fun ls hl => ?_)
              refine lv_goto (tgt := 2) hC.1 hC.2.1 dX9_choose_84 (by decide) ?_
              exact kB2 _ _ _ _ _ h hS (lv_sub hl [1, 2, 0] rfl)
            · have h := h.2 c15
              refine lv_aload_n hC.1 hC.2.1 dX9_choose_57 rfl (lv_at hl 0 rfl) ?_
              refine gf_16_13 hC hS hk1 wq_1002 dX9_choose_58 ?_
              refine lv_iload_n hC.1 hC.2.1 dX9_choose_61 rfl (lv_at hl 1 rfl) ?_
              obtain ⟨hk10, h⟩ := h
              obtain ⟨hx11, h⟩ := h
              refine g_iald hC hS hk10 (by decide) hx11 dX9_choose_62 ?_
              refine lv_iload_n hC.1 hC.2.1 dX9_choose_63 rfl (lv_at hl 2 rfl) ?_
              refine lv_ishr hC.1 hC.2.1 dX9_choose_64 ?_
              refine lv_iconst (v := 1) hC.1 hC.2.1 dX9_choose_65 (by decide) ?_
              refine lv_iand hC.1 hC.2.1 dX9_choose_66 ?_
              refine lv_iconst (v := 1) hC.1 hC.2.1 dX9_choose_67 (by decide) ?_
              refine lv_icmp_ne (tgt := 74) hC.1 hC.2.1 dX9_choose_68 (by decide) (fun c14 => ?_) (fun c14 => ?_)
              · have h := h.2 c14
                refine lv_aload_n hC.1 hC.2.1 dX9_choose_74 rfl (lv_at hl 0 rfl) ?_
                refine lv_iload_n hC.1 hC.2.1 dX9_choose_75 rfl (lv_at hl 1 rfl) ?_
                refine lv_iload_n hC.1 hC.2.1 dX9_choose_76 rfl (lv_at hl 2 rfl) ?_
                refine g_callv0 hS (g_runV (n := 2) (rest := []) (As := [.int x1, .int x2]) (C := RX9) (T := TX9) (N := 17) hC hS hk1 rfl rfl (c_X9_lend l G ks ad w x1 x2 V _ h _) (gI wq_1243 wq_1245 wq_34 wq_47 wq_1246) rfl ⟨⟨by decide +kernel, by decide +kernel, by decide +kernel⟩, rfl, rfl, Nat.le_of_ble_eq_true rfl, Nat.le_of_ble_eq_true rfl⟩ rfl hl rfl (Nat.le_of_ble_eq_true rfl) dX9_choose_77 ⟨Nat.le_of_ble_eq_true rfl, Nat.le_of_ble_eq_true rfl⟩) (fun V13 H locs h hS => ?_)
                exact g_vret hC hr hlk hS h dX9_choose_80
              · have h := h.1 c14
                refine lv_goto (tgt := 81) hC.1 hC.2.1 dX9_choose_71 (by decide) ?_
                obtain ⟨y12, ey12⟩ : ∃ z : Int32, z = x2 + 1 := ⟨_, rfl⟩
                have h := h y12 ey12
                refine lv_iinc (v := y12) (lv' := [(2, .int y12), (0, .ref (ad 16 w 0)), (1, .int x1)]) hC.1 hC.2.1 dX9_choose_81 hl (k := 2) rfl (by rw [ey12]; rfl) (by decide) rfl (fun ls hl => ?_)
                refine lv_goto (tgt := 2) hC.1 hC.2.1 dX9_choose_84 (by decide) ?_
                exact kB2 _ _ _ _ _ h hS (lv_sub hl [1, 2, 0] rfl)
  refine lv_iconst (v := 0) hC.1 hC.2.1 dX9_choose_0 (by decide) ?_
  refine lv_istore_n (lv' := [(2, .int 0), (0, .ref (ad 16 w 0)), (1, .int a1)]) hC.1 hC.2.1 dX9_choose_1 rfl hl (by decide) rfl (fun ls hl => ?_)
  exact kT2 _ _ _ _ _ _ h hS (lv_sub hl [1, 2, 0] rfl)
def wk_X9_bringBack_2 (ks : List KY) (w : Nat) (a1 : Int32) (post : VS → Prop) (B2 : Int32 → VS → Prop) (x1 : Int32) (x2 : Int32) (V : VS) : Prop := ((16, w, 0) ∈ ks ∧ (15, 0, 0) ∈ ks ∧ ((V 15 0 0 6 0) ≤ x2 → (post V)) ∧ (¬ ((V 15 0 0 6 0) ≤ x2) → ((27, w, 0) ∈ ks ∧ vp_in x2 24 ∧ ∀ y5 : Int32, y5 = (V 16 w 0 0 0) - (V 27 w 0 0 x2.toNatClampNeg) → (26, w, 0) ∈ ks ∧ ((V 26 w 0 0 x2.toNatClampNeg) = x1 → ((20, 0, 0) ∈ ks ∧ vp_in ((3 * x1) + 2) 30 ∧ ((V 20 0 0 0 ((3 * x1) + 2).toNatClampNeg) ≤ y5 → (∀ V9 : VS, V9 = vup V 26 w 0 0 x2.toNatClampNeg (-1) → (32, w, 0) ∈ ks ∧ vp_in x1 10 ∧ ∀ V12 : VS, V12 = vup V9 32 w 0 0 x1.toNatClampNeg ((V9 32 w 0 0 x1.toNatClampNeg) + (if (0 : Int32) < (y5 - 14) then (y5 - 14) else (0 : Int32))) → ∀ y13 : Int32, y13 = x2 + 1 → B2 y13 V12)) ∧ (¬ ((V 20 0 0 0 ((3 * x1) + 2).toNatClampNeg) ≤ y5) → (∀ y14 : Int32, y14 = x2 + 1 → B2 y14 V)))) ∧ (¬ ((V 26 w 0 0 x2.toNatClampNeg) = x1) → (∀ y16 : Int32, y16 = x2 + 1 → B2 y16 V)))))
def wl_X9_bringBack_2 (ks : List KY) (w : Nat) (a1 : Int32) (post : VS → Prop) (x1 : Int32) (x2 : Int32) (V : VS) : Prop := ∃ J : Nat → Int32 → VS → Prop, (∃ n, J n x2 V) ∧ ∀ (n : Nat) (x2 : Int32) (V : VS), J n x2 V → wk_X9_bringBack_2 ks w a1 post (fun x2 V => ∃ n', n' < n ∧ J n' x2 V) x1 x2 V
def wp_X9_bringBack (ks : List KY) (w : Nat) (a1 : Int32) (V : VS) (post : VS → Prop) : Prop := (wl_X9_bringBack_2 ks w a1 post a1 0 V)
set_option maxHeartbeats 4000000 in
set_option maxRecDepth 100000 in
theorem c_X9_bringBack (l : Launch) (G : GG) (ks : List KY) (ad : AD) (w : Nat) (a1 : Int32) (V : VS) (post : VS → Prop) (h : wp_X9_bringBack ks w a1 V post) (sz : Nat) : Met l yX9_bringBack (ws_ yX9_bringBack cX9_bringBack 4 none) ({ frames := 1, cells := 0, slots := 0, locals := 16 }) (mPc [.ref (ad 16 w 0), .int a1] G ks ad V sz) (mQv post G ks ad sz) 0 0 (mA ks ad sz) := by
  refine g_met (own := RX9) (by decide) rfl (Nat.le_of_ble_eq_true rfl) ?_
  intro p e s m args below meth c ls hC hsz hr hlk hin hS ha hl
  have hl : lv_has ls 4 [(0, .ref (ad 16 w 0)), (1, .int a1)] := hl
  unfold wp_X9_bringBack at h
  have kT2 : ∀ (x1 : Int32) (x2 : Int32) (V : VS) (H : Heap) (locs : List Loc) (ls : Array Slot), wl_X9_bringBack_2 ks w a1 post x1 x2 V → ST G ks ad V (mA ks ad sz) s.heap H locs → lv_has ls 4 [(0, .ref (ad 16 w 0)), (1, .int x1), (2, .int x2)] → W p l e ({ frames := 1, cells := 0, slots := 0, locals := 16 } : Room) s m args below meth c H locs 0 0 (MQ below (mQv post G ks ad sz) args s 0 0 (mA ks ad sz)) (F0 m 2 ls []) := by
    intro x1 x2 V H locs ls h hS hl
    obtain ⟨J, ⟨n, hJ⟩, hb⟩ := h
    induction n using Nat.strongRecOn generalizing x2 V H locs ls with
    | _ n ih =>
      have h := hb n x2 V hJ
      obtain ⟨B2, eB⟩ : ∃ z : Int32 → VS → Prop, z = (fun x2 V => ∃ n', n' < n ∧ J n' x2 V) := ⟨_, rfl⟩
      rw [← eB] at h
      have kB2 : ∀ (x2 : Int32) (V : VS) (H : Heap) (locs : List Loc) (ls : Array Slot), B2 x2 V → ST G ks ad V (mA ks ad sz) s.heap H locs → lv_has ls 4 [(0, .ref (ad 16 w 0)), (1, .int x1), (2, .int x2)] → W p l e ({ frames := 1, cells := 0, slots := 0, locals := 16 } : Room) s m args below meth c H locs 0 0 (MQ below (mQv post G ks ad sz) args s 0 0 (mA ks ad sz)) (F0 m 2 ls []) := by
        intro x2 V H locs ls h hS hl
        rw [eB] at h
        obtain ⟨n', hn, hJ'⟩ := h
        exact ih n' hn _ _ _ _ _ hS hl hJ'
      clear ih hJ hb eB
      unfold wk_X9_bringBack_2 at h
      refine lv_iload_n hC.1 hC.2.1 dX9_bringBack_2 rfl (lv_at hl 2 rfl) ?_
      refine lv_aload_n hC.1 hC.2.1 dX9_bringBack_3 rfl (lv_at hl 0 rfl) ?_
      obtain ⟨hk1, h⟩ := h
      refine gf_16_16 hC hS hk1 wq_1008 dX9_bringBack_4 ?_
      obtain ⟨hk2, h⟩ := h
      refine gn_15_6 hC hS hk2 wq_1056 dX9_bringBack_7 ?_
      refine lv_icmp_ge (tgt := 85) hC.1 hC.2.1 dX9_bringBack_10 (by decide) (fun c18 => ?_) (fun c18 => ?_)
      · have h := h.1 c18
        exact g_vret hC hr hlk hS h dX9_bringBack_85
      · have h := h.2 c18
        refine lv_aload_n hC.1 hC.2.1 dX9_bringBack_13 rfl (lv_at hl 0 rfl) ?_
        refine gf_16_0 hC hS hk1 wq_976 dX9_bringBack_14 ?_
        refine lv_aload_n hC.1 hC.2.1 dX9_bringBack_17 rfl (lv_at hl 0 rfl) ?_
        refine gf_16_9 hC hS hk1 wq_994 dX9_bringBack_18 ?_
        refine lv_iload_n hC.1 hC.2.1 dX9_bringBack_21 rfl (lv_at hl 2 rfl) ?_
        obtain ⟨hk3, h⟩ := h
        obtain ⟨hx4, h⟩ := h
        refine g_iald hC hS hk3 (by decide) hx4 dX9_bringBack_22 ?_
        refine lv_isub hC.1 hC.2.1 dX9_bringBack_23 ?_
        refine lv_topi (fun y5 ey5 => ?_)
        have h := h y5 ey5
        refine lv_istore_n (lv' := [(3, .int y5), (0, .ref (ad 16 w 0)), (1, .int x1), (2, .int x2)]) hC.1 hC.2.1 dX9_bringBack_24 rfl hl (by decide) rfl (fun ls hl => ?_)
        refine lv_aload_n hC.1 hC.2.1 dX9_bringBack_25 rfl (lv_at hl 1 rfl) ?_
        refine gf_16_8 hC hS hk1 wq_992 dX9_bringBack_26 ?_
        refine lv_iload_n hC.1 hC.2.1 dX9_bringBack_29 rfl (lv_at hl 3 rfl) ?_
        obtain ⟨hk6, h⟩ := h
        refine g_iald hC hS hk6 (by decide) hx4 dX9_bringBack_30 ?_
        refine lv_iload_n hC.1 hC.2.1 dX9_bringBack_31 rfl (lv_at hl 2 rfl) ?_
        refine lv_icmp_ne (tgt := 79) hC.1 hC.2.1 dX9_bringBack_32 (by decide) (fun c17 => ?_) (fun c17 => ?_)
        · have h := h.2 c17
          obtain ⟨y16, ey16⟩ : ∃ z : Int32, z = x2 + 1 := ⟨_, rfl⟩
          have h := h y16 ey16
          refine lv_iinc (v := y16) (lv' := [(2, .int y16), (3, .int y5), (0, .ref (ad 16 w 0)), (1, .int x1)]) hC.1 hC.2.1 dX9_bringBack_79 hl (k := 3) rfl (by rw [ey16]; rfl) (by decide) rfl (fun ls hl => ?_)
          refine lv_goto (tgt := 2) hC.1 hC.2.1 dX9_bringBack_82 (by decide) ?_
          exact kB2 _ _ _ _ _ h hS (lv_sub hl [2, 3, 0] rfl)
        · have h := h.1 c17
          refine lv_iload_n hC.1 hC.2.1 dX9_bringBack_35 rfl (lv_at hl 0 rfl) ?_
          refine lv_aload_n hC.1 hC.2.1 dX9_bringBack_36 rfl (lv_at hl 1 rfl) ?_
          refine gf_16_16 hC hS hk1 wq_1008 dX9_bringBack_37 ?_
          refine gn_15_9 hC hS hk2 wq_1062 dX9_bringBack_40 ?_
          refine lv_iconst (v := 3) hC.1 hC.2.1 dX9_bringBack_43 (by decide) ?_
          refine lv_iload_n hC.1 hC.2.1 dX9_bringBack_44 rfl (lv_at hl 2 rfl) ?_
          refine lv_imul hC.1 hC.2.1 dX9_bringBack_45 ?_
          refine lv_iconst (v := 2) hC.1 hC.2.1 dX9_bringBack_46 (by decide) ?_
          refine lv_iadd hC.1 hC.2.1 dX9_bringBack_47 ?_
          obtain ⟨hk7, h⟩ := h
          obtain ⟨hx8, h⟩ := h
          refine g_iald hC hS hk7 (by decide) hx8 dX9_bringBack_48 ?_
          refine lv_icmp_ge (tgt := 55) hC.1 hC.2.1 dX9_bringBack_49 (by decide) (fun c15 => ?_) (fun c15 => ?_)
          · have h := h.1 c15
            refine lv_aload_n hC.1 hC.2.1 dX9_bringBack_55 rfl (lv_at hl 1 rfl) ?_
            refine gf_16_8 hC hS hk1 wq_992 dX9_bringBack_56 ?_
            refine lv_iload_n hC.1 hC.2.1 dX9_bringBack_59 rfl (lv_at hl 3 rfl) ?_
            refine lv_iconst (v := (-1)) hC.1 hC.2.1 dX9_bringBack_60 (by decide) ?_
            refine g_iast hC hS hk6 (by decide) hx4 dX9_bringBack_61 (fun H locs hS => ?_)
            obtain ⟨V9, eV9⟩ : ∃ z : VS, z = vup V 26 w 0 0 x2.toNatClampNeg (-1) := ⟨_, rfl⟩
            rw [← eV9] at hS
            have h := h V9 eV9
            refine lv_aload_n hC.1 hC.2.1 dX9_bringBack_62 rfl (lv_at hl 1 rfl) ?_
            refine gf_16_14 hC hS hk1 wq_1004 dX9_bringBack_63 ?_
            refine lv_iload_n hC.1 hC.2.1 dX9_bringBack_66 rfl (lv_at hl 2 rfl) ?_
            refine lv_dup2_11 hC.1 hC.2.1 dX9_bringBack_67 rfl rfl ?_
            obtain ⟨hk10, h⟩ := h
            obtain ⟨hx11, h⟩ := h
            refine g_iald hC hS hk10 (by decide) hx11 dX9_bringBack_68 ?_
            refine lv_iconst (v := 0) hC.1 hC.2.1 dX9_bringBack_69 (by decide) ?_
            refine lv_iload_n hC.1 hC.2.1 dX9_bringBack_70 rfl (lv_at hl 0 rfl) ?_
            refine lv_bipush (v := 14) hC.1 hC.2.1 dX9_bringBack_71 (by decide) ?_
            refine lv_isub hC.1 hC.2.1 dX9_bringBack_73 ?_
            refine va_mmax hC.1 hC.2.1 (hC.2.2.1.trans hl.1.symm) hC.2.2.2.1 (hC.2.2.2.2.1 _ wq_1231) (hC.2.2.2.2.1 _ wq_442) (hC.2.2.2.2.1 _ wq_54) (hC.2.2.2.2.1 _ wq_443) (by decide) (Nat.le_of_ble_eq_true rfl) (Nat.le_of_ble_eq_true rfl) (Nat.le_of_ble_eq_true rfl) dX9_bringBack_74 ?_
            refine lv_iadd hC.1 hC.2.1 dX9_bringBack_77 ?_
            refine g_iast hC hS hk10 (by decide) hx11 dX9_bringBack_78 (fun H locs hS => ?_)
            obtain ⟨V12, eV12⟩ : ∃ z : VS, z = vup V9 32 w 0 0 x1.toNatClampNeg ((V9 32 w 0 0 x1.toNatClampNeg) + (if (0 : Int32) < (y5 - 14) then (y5 - 14) else (0 : Int32))) := ⟨_, rfl⟩
            rw [← eV12] at hS
            have h := h V12 eV12
            obtain ⟨y13, ey13⟩ : ∃ z : Int32, z = x2 + 1 := ⟨_, rfl⟩
            have h := h y13 ey13
            refine lv_iinc (v := y13) (lv' := [(2, .int y13), (3, .int y5), (0, .ref (ad 16 w 0)), (1, .int x1)]) hC.1 hC.2.1 dX9_bringBack_79 hl (k := 3) rfl (by rw [ey13]; rfl) (by decide) rfl (fun ls hl => ?_)
            refine lv_goto (tgt := 2) hC.1 hC.2.1 dX9_bringBack_82 (by decide) ?_
            exact kB2 _ _ _ _ _ h hS (lv_sub hl [2, 3, 0] rfl)
          · have h := h.2 c15
            refine lv_goto (tgt := 79) hC.1 hC.2.1 dX9_bringBack_52 (by decide) ?_
            obtain ⟨y14, ey14⟩ : ∃ z : Int32, z = x2 + 1 := ⟨_, rfl⟩
            have h := h y14 ey14
            refine lv_iinc (v := y14) (lv' := [(2, .int y14), (3, .int y5), (0, .ref (ad 16 w 0)), (1, .int x1)]) hC.1 hC.2.1 dX9_bringBack_79 hl (k := 3) rfl (by rw [ey14]; rfl) (by decide) rfl (fun ls hl => ?_)
            refine lv_goto (tgt := 2) hC.1 hC.2.1 dX9_bringBack_82 (by decide) ?_
            exact kB2 _ _ _ _ _ h hS (lv_sub hl [2, 3, 0] rfl)
  refine lv_iconst (v := 0) hC.1 hC.2.1 dX9_bringBack_0 (by decide) ?_
  refine lv_istore_n (lv' := [(2, .int 0), (0, .ref (ad 16 w 0)), (1, .int a1)]) hC.1 hC.2.1 dX9_bringBack_1 rfl hl (by decide) rfl (fun ls hl => ?_)
  exact kT2 _ _ _ _ _ _ h hS (lv_sub hl [1, 2, 0] rfl)
def wk_X9_serve_160 (ks : List KY) (w : Nat) (a1 : Int32) (post : VS → Prop) (B160 : Int32 → VS → Prop) (x1 : Int32) (x2 : Int32) (V : VS) : Prop := ((16, w, 0) ∈ ks ∧ (15, 0, 0) ∈ ks ∧ ((V 15 0 0 8 0) ≤ x2 → (post V)) ∧ (¬ ((V 15 0 0 8 0) ≤ x2) → ((20, 0, 0) ∈ ks ∧ vp_in (3 * x2) 30 ∧ ((V 20 0 0 0 (3 * x2).toNatClampNeg) = x1 → (wp_X9_many ks w x2 V (fun r6 V5 => (((3 : Int32) ≤ r6 → (∀ y7 : Int32, y7 = x2 + 1 → B160 y7 V5)) ∧ (¬ ((3 : Int32) ≤ r6) → (wp_X9_choose ks w x2 V5 (fun V8 => (∀ y9 : Int32, y9 = x2 + 1 → B160 y9 V8)))))))) ∧ (¬ ((V 20 0 0 0 (3 * x2).toNatClampNeg) = x1) → (∀ y11 : Int32, y11 = x2 + 1 → B160 y11 V)))))
def wl_X9_serve_160 (ks : List KY) (w : Nat) (a1 : Int32) (post : VS → Prop) (x1 : Int32) (x2 : Int32) (V : VS) : Prop := ∃ J : Nat → Int32 → VS → Prop, (∃ n, J n x2 V) ∧ ∀ (n : Nat) (x2 : Int32) (V : VS), J n x2 V → wk_X9_serve_160 ks w a1 post (fun x2 V => ∃ n', n' < n ∧ J n' x2 V) x1 x2 V
def wk_X9_serve_64 (ks : List KY) (w : Nat) (a1 : Int32) (post : VS → Prop) (B51 : Int32 → VS → Prop) (B64 : Int32 → VS → Prop) (x1 : Int32) (x2 : Int32) (x3 : Int32) (V : VS) : Prop := ((16, w, 0) ∈ ks ∧ (15, 0, 0) ∈ ks ∧ ((V 15 0 0 6 0) ≤ x3 → (∀ y16 : Int32, y16 = x2 + 1 → B51 y16 V)) ∧ (¬ ((V 15 0 0 6 0) ≤ x3) → ((20, 0, 0) ∈ ks ∧ vp_in (3 * x2) 30 ∧ ((V 20 0 0 0 (3 * x2).toNatClampNeg) = x1 → ((26, w, 0) ∈ ks ∧ vp_in x3 24 ∧ ((V 26 w 0 0 x3.toNatClampNeg) = (-1) → ((30, w, 0) ∈ ks ∧ ((V 30 w 0 0 x3.toNatClampNeg) = 0 → (∀ y22 : Int32, y22 = x3 + 1 → B64 y22 V)) ∧ (¬ ((V 30 w 0 0 x3.toNatClampNeg) = 0) → ((29, w, 0) ∈ ks ∧ vp_in (10 * x3) 240 ∧ ((V 29 w 0 0 (10 * x3).toNatClampNeg) = x2 → (wp_X9_many ks w x2 V (fun r26 V25 => ((r26 = 3 → (∀ y27 : Int32, y27 = x3 + 1 → B64 y27 V25)) ∧ (¬ (r26 = 3) → (wp_X9_strike ks w x3 0 V25 (fun V28 => (wp_X9_lend ks w x2 x3 V28 (fun V29 => (∀ y30 : Int32, y30 = x3 + 1 → B64 y30 V29)))))))))) ∧ (¬ ((V 29 w 0 0 (10 * x3).toNatClampNeg) = x2) → (∀ y32 : Int32, y32 = x3 + 1 → B64 y32 V)))))) ∧ (¬ ((V 26 w 0 0 x3.toNatClampNeg) = (-1)) → (∀ y35 : Int32, y35 = x3 + 1 → B64 y35 V)))) ∧ (¬ ((V 20 0 0 0 (3 * x2).toNatClampNeg) = x1) → (∀ y37 : Int32, y37 = x2 + 1 → B51 y37 V)))))
def wl_X9_serve_64 (ks : List KY) (w : Nat) (a1 : Int32) (post : VS → Prop) (B51 : Int32 → VS → Prop) (x1 : Int32) (x2 : Int32) (x3 : Int32) (V : VS) : Prop := ∃ J : Nat → Int32 → VS → Prop, (∃ n, J n x3 V) ∧ ∀ (n : Nat) (x3 : Int32) (V : VS), J n x3 V → wk_X9_serve_64 ks w a1 post B51 (fun x3 V => ∃ n', n' < n ∧ J n' x3 V) x1 x2 x3 V
def wk_X9_serve_51 (ks : List KY) (w : Nat) (a1 : Int32) (post : VS → Prop) (B51 : Int32 → VS → Prop) (x1 : Int32) (x2 : Int32) (V : VS) : Prop := ((16, w, 0) ∈ ks ∧ (15, 0, 0) ∈ ks ∧ ((V 15 0 0 8 0) ≤ x2 → (wl_X9_serve_160 ks w a1 post x1 0 V)) ∧ (¬ ((V 15 0 0 8 0) ≤ x2) → (wl_X9_serve_64 ks w a1 post B51 x1 x2 0 V)))
def wl_X9_serve_51 (ks : List KY) (w : Nat) (a1 : Int32) (post : VS → Prop) (x1 : Int32) (x2 : Int32) (V : VS) : Prop := ∃ J : Nat → Int32 → VS → Prop, (∃ n, J n x2 V) ∧ ∀ (n : Nat) (x2 : Int32) (V : VS), J n x2 V → wk_X9_serve_51 ks w a1 post (fun x2 V => ∃ n', n' < n ∧ J n' x2 V) x1 x2 V
def wk_X9_serve_12 (ks : List KY) (w : Nat) (a1 : Int32) (post : VS → Prop) (B12 : Int32 → VS → Prop) (x1 : Int32) (x2 : Int32) (V : VS) : Prop := ((16, w, 0) ∈ ks ∧ (15, 0, 0) ∈ ks ∧ ((V 15 0 0 8 0) ≤ x2 → (wl_X9_serve_51 ks w a1 post x1 0 V)) ∧ (¬ ((V 15 0 0 8 0) ≤ x2) → ((20, 0, 0) ∈ ks ∧ vp_in (3 * x2) 30 ∧ ((V 20 0 0 0 (3 * x2).toNatClampNeg) = x1 → (wp_X9_bringBack ks w x2 V (fun V47 => (∀ y48 : Int32, y48 = x2 + 1 → B12 y48 V47)))) ∧ (¬ ((V 20 0 0 0 (3 * x2).toNatClampNeg) = x1) → (∀ y49 : Int32, y49 = x2 + 1 → B12 y49 V)))))
def wl_X9_serve_12 (ks : List KY) (w : Nat) (a1 : Int32) (post : VS → Prop) (x1 : Int32) (x2 : Int32) (V : VS) : Prop := ∃ J : Nat → Int32 → VS → Prop, (∃ n, J n x2 V) ∧ ∀ (n : Nat) (x2 : Int32) (V : VS), J n x2 V → wk_X9_serve_12 ks w a1 post (fun x2 V => ∃ n', n' < n ∧ J n' x2 V) x1 x2 V
def wp_X9_serve (ks : List KY) (w : Nat) (a1 : Int32) (V : VS) (post : VS → Prop) : Prop := ((16, w, 0) ∈ ks ∧ (24, w, 0) ∈ ks ∧ vp_in a1 8 ∧ ∀ V55 : VS, V55 = vup V 24 w 0 0 a1.toNatClampNeg ((V 24 w 0 0 a1.toNatClampNeg) + 1) → wl_X9_serve_12 ks w a1 post a1 0 V55)
set_option maxHeartbeats 4000000 in
set_option maxRecDepth 100000 in
theorem c_X9_serve (l : Launch) (G : GG) (ks : List KY) (ad : AD) (w : Nat) (a1 : Int32) (V : VS) (post : VS → Prop) (h : wp_X9_serve ks w a1 V post) (sz : Nat) : Met l yX9_serve (ws_ yX9_serve cX9_serve 4 none) ({ frames := 2, cells := 0, slots := 0, locals := 44 }) (mPc [.ref (ad 16 w 0), .int a1] G ks ad V sz) (mQv post G ks ad sz) 0 0 (mA ks ad sz) := by
  refine g_met (own := RX9) (by decide) rfl (Nat.le_of_ble_eq_true rfl) ?_
  intro p e s m args below meth c ls hC hsz hr hlk hin hS ha hl
  have hl : lv_has ls 4 [(0, .ref (ad 16 w 0)), (1, .int a1)] := hl
  unfold wp_X9_serve at h
  have kT160 : ∀ (x1 : Int32) (x2 : Int32) (V : VS) (H : Heap) (locs : List Loc) (ls : Array Slot), wl_X9_serve_160 ks w a1 post x1 x2 V → ST G ks ad V (mA ks ad sz) s.heap H locs → lv_has ls 4 [(0, .ref (ad 16 w 0)), (1, .int x1), (2, .int x2)] → W p l e ({ frames := 2, cells := 0, slots := 0, locals := 44 } : Room) s m args below meth c H locs 0 0 (MQ below (mQv post G ks ad sz) args s 0 0 (mA ks ad sz)) (F0 m 160 ls []) := by
    intro x1 x2 V H locs ls h hS hl
    obtain ⟨J, ⟨n, hJ⟩, hb⟩ := h
    induction n using Nat.strongRecOn generalizing x2 V H locs ls with
    | _ n ih =>
      have h := hb n x2 V hJ
      obtain ⟨B160, eB⟩ : ∃ z : Int32 → VS → Prop, z = (fun x2 V => ∃ n', n' < n ∧ J n' x2 V) := ⟨_, rfl⟩
      rw [← eB] at h
      have kB160 : ∀ (x2 : Int32) (V : VS) (H : Heap) (locs : List Loc) (ls : Array Slot), B160 x2 V → ST G ks ad V (mA ks ad sz) s.heap H locs → lv_has ls 4 [(0, .ref (ad 16 w 0)), (1, .int x1), (2, .int x2)] → W p l e ({ frames := 2, cells := 0, slots := 0, locals := 44 } : Room) s m args below meth c H locs 0 0 (MQ below (mQv post G ks ad sz) args s 0 0 (mA ks ad sz)) (F0 m 160 ls []) := by
        intro x2 V H locs ls h hS hl
        rw [eB] at h
        obtain ⟨n', hn, hJ'⟩ := h
        exact ih n' hn _ _ _ _ _ hS hl hJ'
      clear ih hJ hb eB
      unfold wk_X9_serve_160 at h
      refine lv_iload_n hC.1 hC.2.1 dX9_serve_160 rfl (lv_at hl 2 rfl) ?_
      refine lv_aload_n hC.1 hC.2.1 dX9_serve_161 rfl (lv_at hl 0 rfl) ?_
      obtain ⟨hk1, h⟩ := h
      refine gf_16_16 hC hS hk1 wq_1008 dX9_serve_162 ?_
      obtain ⟨hk2, h⟩ := h
      refine gn_15_8 hC hS hk2 wq_1060 dX9_serve_165 ?_
      refine lv_icmp_ge (tgt := 206) hC.1 hC.2.1 dX9_serve_168 (by decide) (fun c13 => ?_) (fun c13 => ?_)
      · have h := h.1 c13
        exact g_vret hC hr hlk hS h dX9_serve_206
      · have h := h.2 c13
        refine lv_aload_n hC.1 hC.2.1 dX9_serve_171 rfl (lv_at hl 0 rfl) ?_
        refine gf_16_16 hC hS hk1 wq_1008 dX9_serve_172 ?_
        refine gn_15_9 hC hS hk2 wq_1062 dX9_serve_175 ?_
        refine lv_iconst (v := 3) hC.1 hC.2.1 dX9_serve_178 (by decide) ?_
        refine lv_iload_n hC.1 hC.2.1 dX9_serve_179 rfl (lv_at hl 2 rfl) ?_
        refine lv_imul hC.1 hC.2.1 dX9_serve_180 ?_
        obtain ⟨hk3, h⟩ := h
        obtain ⟨hx4, h⟩ := h
        refine g_iald hC hS hk3 (by decide) hx4 dX9_serve_181 ?_
        refine lv_iload_n hC.1 hC.2.1 dX9_serve_182 rfl (lv_at hl 1 rfl) ?_
        refine lv_icmp_ne (tgt := 200) hC.1 hC.2.1 dX9_serve_183 (by decide) (fun c12 => ?_) (fun c12 => ?_)
        · have h := h.2 c12
          obtain ⟨y11, ey11⟩ : ∃ z : Int32, z = x2 + 1 := ⟨_, rfl⟩
          have h := h y11 ey11
          refine lv_iinc (v := y11) (lv' := [(2, .int y11), (0, .ref (ad 16 w 0)), (1, .int x1)]) hC.1 hC.2.1 dX9_serve_200 hl (k := 2) rfl (by rw [ey11]; rfl) (by decide) rfl (fun ls hl => ?_)
          refine lv_goto (tgt := 160) hC.1 hC.2.1 dX9_serve_203 (by decide) ?_
          exact kB160 _ _ _ _ _ h hS (lv_sub hl [1, 2, 0] rfl)
        · have h := h.1 c12
          refine lv_aload_n hC.1 hC.2.1 dX9_serve_186 rfl (lv_at hl 0 rfl) ?_
          refine lv_iload_n hC.1 hC.2.1 dX9_serve_187 rfl (lv_at hl 2 rfl) ?_
          refine g_calli0 hS (g_runV (n := 1) (rest := []) (As := [.int x2]) (C := RX9) (T := TX9) (N := 17) hC hS hk1 rfl rfl (c_X9_many l G ks ad w x2 V _ h _) (gI wq_1241 wq_1211 wq_1212 wq_47 wq_1213) rfl ⟨⟨by decide +kernel, by decide +kernel, by decide +kernel⟩, rfl, rfl, Nat.le_of_ble_eq_true rfl, Nat.le_of_ble_eq_true rfl⟩ rfl hl rfl (Nat.le_of_ble_eq_true rfl) dX9_serve_188 ⟨Nat.le_of_ble_eq_true rfl, Nat.le_of_ble_eq_true rfl⟩) (fun r6 V5 H locs h hS => ?_)
          refine lv_iconst (v := 3) hC.1 hC.2.1 dX9_serve_191 (by decide) ?_
          refine lv_icmp_ge (tgt := 200) hC.1 hC.2.1 dX9_serve_192 (by decide) (fun c10 => ?_) (fun c10 => ?_)
          · have h := h.1 c10
            obtain ⟨y7, ey7⟩ : ∃ z : Int32, z = x2 + 1 := ⟨_, rfl⟩
            have h := h y7 ey7
            refine lv_iinc (v := y7) (lv' := [(2, .int y7), (0, .ref (ad 16 w 0)), (1, .int x1)]) hC.1 hC.2.1 dX9_serve_200 hl (k := 2) rfl (by rw [ey7]; rfl) (by decide) rfl (fun ls hl => ?_)
            refine lv_goto (tgt := 160) hC.1 hC.2.1 dX9_serve_203 (by decide) ?_
            exact kB160 _ _ _ _ _ h hS (lv_sub hl [1, 2, 0] rfl)
          · have h := h.2 c10
            refine lv_aload_n hC.1 hC.2.1 dX9_serve_195 rfl (lv_at hl 0 rfl) ?_
            refine lv_iload_n hC.1 hC.2.1 dX9_serve_196 rfl (lv_at hl 2 rfl) ?_
            refine g_callv0 hS (g_runV (n := 1) (rest := []) (As := [.int x2]) (C := RX9) (T := TX9) (N := 17) hC hS hk1 rfl rfl (c_X9_choose l G ks ad w x2 V5 _ h _) (gI wq_1247 wq_1249 wq_35 wq_47 wq_1250) rfl ⟨⟨by decide +kernel, by decide +kernel, by decide +kernel⟩, rfl, rfl, Nat.le_of_ble_eq_true rfl, Nat.le_of_ble_eq_true rfl⟩ rfl hl rfl (Nat.le_of_ble_eq_true rfl) dX9_serve_197 ⟨Nat.le_of_ble_eq_true rfl, Nat.le_of_ble_eq_true rfl⟩) (fun V8 H locs h hS => ?_)
            obtain ⟨y9, ey9⟩ : ∃ z : Int32, z = x2 + 1 := ⟨_, rfl⟩
            have h := h y9 ey9
            refine lv_iinc (v := y9) (lv' := [(2, .int y9), (0, .ref (ad 16 w 0)), (1, .int x1)]) hC.1 hC.2.1 dX9_serve_200 hl (k := 2) rfl (by rw [ey9]; rfl) (by decide) rfl (fun ls hl => ?_)
            refine lv_goto (tgt := 160) hC.1 hC.2.1 dX9_serve_203 (by decide) ?_
            exact kB160 _ _ _ _ _ h hS (lv_sub hl [1, 2, 0] rfl)
  have kT51 : ∀ (x1 : Int32) (x2 : Int32) (V : VS) (H : Heap) (locs : List Loc) (ls : Array Slot), wl_X9_serve_51 ks w a1 post x1 x2 V → ST G ks ad V (mA ks ad sz) s.heap H locs → lv_has ls 4 [(0, .ref (ad 16 w 0)), (1, .int x1), (2, .int x2)] → W p l e ({ frames := 2, cells := 0, slots := 0, locals := 44 } : Room) s m args below meth c H locs 0 0 (MQ below (mQv post G ks ad sz) args s 0 0 (mA ks ad sz)) (F0 m 51 ls []) := by
    intro x1 x2 V H locs ls h hS hl
    obtain ⟨J, ⟨n, hJ⟩, hb⟩ := h
    induction n using Nat.strongRecOn generalizing x2 V H locs ls with
    | _ n ih =>
      have h := hb n x2 V hJ
      obtain ⟨B51, eB⟩ : ∃ z : Int32 → VS → Prop, z = (fun x2 V => ∃ n', n' < n ∧ J n' x2 V) := ⟨_, rfl⟩
      rw [← eB] at h
      have kB51 : ∀ (x2 : Int32) (V : VS) (H : Heap) (locs : List Loc) (ls : Array Slot), B51 x2 V → ST G ks ad V (mA ks ad sz) s.heap H locs → lv_has ls 4 [(0, .ref (ad 16 w 0)), (1, .int x1), (2, .int x2)] → W p l e ({ frames := 2, cells := 0, slots := 0, locals := 44 } : Room) s m args below meth c H locs 0 0 (MQ below (mQv post G ks ad sz) args s 0 0 (mA ks ad sz)) (F0 m 51 ls []) := by
        intro x2 V H locs ls h hS hl
        rw [eB] at h
        obtain ⟨n', hn, hJ'⟩ := h
        exact ih n' hn _ _ _ _ _ hS hl hJ'
      clear ih hJ hb eB
      unfold wk_X9_serve_51 at h
      have kT64 : ∀ (x2 : Int32) (x3 : Int32) (V : VS) (H : Heap) (locs : List Loc) (ls : Array Slot), wl_X9_serve_64 ks w a1 post B51 x1 x2 x3 V → ST G ks ad V (mA ks ad sz) s.heap H locs → lv_has ls 4 [(0, .ref (ad 16 w 0)), (1, .int x1), (2, .int x2), (3, .int x3)] → W p l e ({ frames := 2, cells := 0, slots := 0, locals := 44 } : Room) s m args below meth c H locs 0 0 (MQ below (mQv post G ks ad sz) args s 0 0 (mA ks ad sz)) (F0 m 64 ls []) := by
        intro x2 x3 V H locs ls h hS hl
        obtain ⟨J, ⟨n, hJ⟩, hb⟩ := h
        induction n using Nat.strongRecOn generalizing x3 V H locs ls with
        | _ n ih =>
          have h := hb n x3 V hJ
          obtain ⟨B64, eB⟩ : ∃ z : Int32 → VS → Prop, z = (fun x3 V => ∃ n', n' < n ∧ J n' x3 V) := ⟨_, rfl⟩
          rw [← eB] at h
          have kB64 : ∀ (x3 : Int32) (V : VS) (H : Heap) (locs : List Loc) (ls : Array Slot), B64 x3 V → ST G ks ad V (mA ks ad sz) s.heap H locs → lv_has ls 4 [(0, .ref (ad 16 w 0)), (1, .int x1), (2, .int x2), (3, .int x3)] → W p l e ({ frames := 2, cells := 0, slots := 0, locals := 44 } : Room) s m args below meth c H locs 0 0 (MQ below (mQv post G ks ad sz) args s 0 0 (mA ks ad sz)) (F0 m 64 ls []) := by
            intro x3 V H locs ls h hS hl
            rw [eB] at h
            obtain ⟨n', hn, hJ'⟩ := h
            exact ih n' hn _ _ _ _ _ hS hl hJ'
          clear ih hJ hb eB
          unfold wk_X9_serve_64 at h
          refine lv_iload_n hC.1 hC.2.1 dX9_serve_64 rfl (lv_at hl 3 rfl) ?_
          refine lv_aload_n hC.1 hC.2.1 dX9_serve_65 rfl (lv_at hl 0 rfl) ?_
          obtain ⟨hk14, h⟩ := h
          refine gf_16_16 hC hS hk14 wq_1008 dX9_serve_66 ?_
          obtain ⟨hk15, h⟩ := h
          refine gn_15_6 hC hS hk15 wq_1056 dX9_serve_69 ?_
          refine lv_icmp_ge (tgt := 152) hC.1 hC.2.1 dX9_serve_72 (by decide) (fun c39 => ?_) (fun c39 => ?_)
          · have h := h.1 c39
            obtain ⟨y16, ey16⟩ : ∃ z : Int32, z = x2 + 1 := ⟨_, rfl⟩
            have h := h y16 ey16
            refine lv_iinc (v := y16) (lv' := [(2, .int y16), (0, .ref (ad 16 w 0)), (1, .int x1), (3, .int x3)]) hC.1 hC.2.1 dX9_serve_152 hl (k := 2) rfl (by rw [ey16]; rfl) (by decide) rfl (fun ls hl => ?_)
            refine lv_goto (tgt := 51) hC.1 hC.2.1 dX9_serve_155 (by decide) ?_
            exact kB51 _ _ _ _ _ h hS (lv_sub hl [1, 2, 0] rfl)
          · have h := h.2 c39
            refine lv_aload_n hC.1 hC.2.1 dX9_serve_75 rfl (lv_at hl 0 rfl) ?_
            refine gf_16_16 hC hS hk14 wq_1008 dX9_serve_76 ?_
            refine gn_15_9 hC hS hk15 wq_1062 dX9_serve_79 ?_
            refine lv_iconst (v := 3) hC.1 hC.2.1 dX9_serve_82 (by decide) ?_
            refine lv_iload_n hC.1 hC.2.1 dX9_serve_83 rfl (lv_at hl 2 rfl) ?_
            refine lv_imul hC.1 hC.2.1 dX9_serve_84 ?_
            obtain ⟨hk17, h⟩ := h
            obtain ⟨hx18, h⟩ := h
            refine g_iald hC hS hk17 (by decide) hx18 dX9_serve_85 ?_
            refine lv_iload_n hC.1 hC.2.1 dX9_serve_86 rfl (lv_at hl 1 rfl) ?_
            refine lv_icmp_ne (tgt := 152) hC.1 hC.2.1 dX9_serve_87 (by decide) (fun c38 => ?_) (fun c38 => ?_)
            · have h := h.2 c38
              obtain ⟨y37, ey37⟩ : ∃ z : Int32, z = x2 + 1 := ⟨_, rfl⟩
              have h := h y37 ey37
              refine lv_iinc (v := y37) (lv' := [(2, .int y37), (0, .ref (ad 16 w 0)), (1, .int x1), (3, .int x3)]) hC.1 hC.2.1 dX9_serve_152 hl (k := 2) rfl (by rw [ey37]; rfl) (by decide) rfl (fun ls hl => ?_)
              refine lv_goto (tgt := 51) hC.1 hC.2.1 dX9_serve_155 (by decide) ?_
              exact kB51 _ _ _ _ _ h hS (lv_sub hl [1, 2, 0] rfl)
            · have h := h.1 c38
              refine lv_aload_n hC.1 hC.2.1 dX9_serve_90 rfl (lv_at hl 0 rfl) ?_
              refine gf_16_8 hC hS hk14 wq_992 dX9_serve_91 ?_
              refine lv_iload_n hC.1 hC.2.1 dX9_serve_94 rfl (lv_at hl 3 rfl) ?_
              obtain ⟨hk19, h⟩ := h
              obtain ⟨hx20, h⟩ := h
              refine g_iald hC hS hk19 (by decide) hx20 dX9_serve_95 ?_
              refine lv_iconst (v := (-1)) hC.1 hC.2.1 dX9_serve_96 (by decide) ?_
              refine lv_icmp_ne (tgt := 146) hC.1 hC.2.1 dX9_serve_97 (by decide) (fun c36 => ?_) (fun c36 => ?_)
              · have h := h.2 c36
                obtain ⟨y35, ey35⟩ : ∃ z : Int32, z = x3 + 1 := ⟨_, rfl⟩
                have h := h y35 ey35
                refine lv_iinc (v := y35) (lv' := [(3, .int y35), (0, .ref (ad 16 w 0)), (1, .int x1), (2, .int x2)]) hC.1 hC.2.1 dX9_serve_146 hl (k := 3) rfl (by rw [ey35]; rfl) (by decide) rfl (fun ls hl => ?_)
                refine lv_goto (tgt := 64) hC.1 hC.2.1 dX9_serve_149 (by decide) ?_
                exact kB64 _ _ _ _ _ h hS (lv_sub hl [1, 2, 3, 0] rfl)
              · have h := h.1 c36
                refine lv_aload_n hC.1 hC.2.1 dX9_serve_100 rfl (lv_at hl 0 rfl) ?_
                refine gf_16_12 hC hS hk14 wq_1000 dX9_serve_101 ?_
                refine lv_iload_n hC.1 hC.2.1 dX9_serve_104 rfl (lv_at hl 3 rfl) ?_
                obtain ⟨hk21, h⟩ := h
                refine g_iald hC hS hk21 (by decide) hx20 dX9_serve_105 ?_
                refine lv_if_eq (tgt := 146) hC.1 hC.2.1 dX9_serve_106 (by decide) (fun c34 => ?_) (fun c34 => ?_)
                · have h := h.1 c34
                  obtain ⟨y22, ey22⟩ : ∃ z : Int32, z = x3 + 1 := ⟨_, rfl⟩
                  have h := h y22 ey22
                  refine lv_iinc (v := y22) (lv' := [(3, .int y22), (0, .ref (ad 16 w 0)), (1, .int x1), (2, .int x2)]) hC.1 hC.2.1 dX9_serve_146 hl (k := 3) rfl (by rw [ey22]; rfl) (by decide) rfl (fun ls hl => ?_)
                  refine lv_goto (tgt := 64) hC.1 hC.2.1 dX9_serve_149 (by decide) ?_
                  exact kB64 _ _ _ _ _ h hS (lv_sub hl [1, 2, 3, 0] rfl)
                · have h := h.2 c34
                  refine lv_aload_n hC.1 hC.2.1 dX9_serve_109 rfl (lv_at hl 0 rfl) ?_
                  refine gf_16_11 hC hS hk14 wq_998 dX9_serve_110 ?_
                  refine lv_bipush (v := 10) hC.1 hC.2.1 dX9_serve_113 (by decide) ?_
                  refine lv_iload_n hC.1 hC.2.1 dX9_serve_115 rfl (lv_at hl 3 rfl) ?_
                  refine lv_imul hC.1 hC.2.1 dX9_serve_116 ?_
                  obtain ⟨hk23, h⟩ := h
                  obtain ⟨hx24, h⟩ := h
                  refine g_iald hC hS hk23 (by decide) hx24 dX9_serve_117 ?_
                  refine lv_iload_n hC.1 hC.2.1 dX9_serve_118 rfl (lv_at hl 2 rfl) ?_
                  refine lv_icmp_ne (tgt := 146) hC.1 hC.2.1 dX9_serve_119 (by decide) (fun c33 => ?_) (fun c33 => ?_)
                  · have h := h.2 c33
                    obtain ⟨y32, ey32⟩ : ∃ z : Int32, z = x3 + 1 := ⟨_, rfl⟩
                    have h := h y32 ey32
                    refine lv_iinc (v := y32) (lv' := [(3, .int y32), (0, .ref (ad 16 w 0)), (1, .int x1), (2, .int x2)]) hC.1 hC.2.1 dX9_serve_146 hl (k := 3) rfl (by rw [ey32]; rfl) (by decide) rfl (fun ls hl => ?_)
                    refine lv_goto (tgt := 64) hC.1 hC.2.1 dX9_serve_149 (by decide) ?_
                    exact kB64 _ _ _ _ _ h hS (lv_sub hl [1, 2, 3, 0] rfl)
                  · have h := h.1 c33
                    refine lv_aload_n hC.1 hC.2.1 dX9_serve_122 rfl (lv_at hl 0 rfl) ?_
                    refine lv_iload_n hC.1 hC.2.1 dX9_serve_123 rfl (lv_at hl 2 rfl) ?_
                    refine g_calli0 hS (g_runV (n := 1) (rest := []) (As := [.int x2]) (C := RX9) (T := TX9) (N := 17) hC hS hk14 rfl rfl (c_X9_many l G ks ad w x2 V _ h _) (gI wq_1241 wq_1211 wq_1212 wq_47 wq_1213) rfl ⟨⟨by decide +kernel, by decide +kernel, by decide +kernel⟩, rfl, rfl, Nat.le_of_ble_eq_true rfl, Nat.le_of_ble_eq_true rfl⟩ rfl hl rfl (Nat.le_of_ble_eq_true rfl) dX9_serve_124 ⟨Nat.le_of_ble_eq_true rfl, Nat.le_of_ble_eq_true rfl⟩) (fun r26 V25 H locs h hS => ?_)
                    refine lv_iconst (v := 3) hC.1 hC.2.1 dX9_serve_127 (by decide) ?_
                    refine lv_icmp_ne (tgt := 134) hC.1 hC.2.1 dX9_serve_128 (by decide) (fun c31 => ?_) (fun c31 => ?_)
                    · have h := h.2 c31
                      refine lv_aload_n hC.1 hC.2.1 dX9_serve_134 rfl (lv_at hl 0 rfl) ?_
                      refine lv_iload_n hC.1 hC.2.1 dX9_serve_135 rfl (lv_at hl 3 rfl) ?_
                      refine lv_iconst (v := 0) hC.1 hC.2.1 dX9_serve_136 (by decide) ?_
                      refine g_callv0 hS (g_runV (n := 2) (rest := []) (As := [.int x3, .int 0]) (C := RX9) (T := TX9) (N := 17) hC hS hk14 rfl rfl (c_X9_strike l G ks ad w x3 0 V25 _ h _) (gI wq_1242 wq_1191 wq_1192 wq_47 wq_1193) rfl ⟨⟨by decide +kernel, by decide +kernel, by decide +kernel⟩, rfl, rfl, Nat.le_of_ble_eq_true rfl, Nat.le_of_ble_eq_true rfl⟩ rfl hl rfl (Nat.le_of_ble_eq_true rfl) dX9_serve_137 ⟨Nat.le_of_ble_eq_true rfl, Nat.le_of_ble_eq_true rfl⟩) (fun V28 H locs h hS => ?_)
                      refine lv_aload_n hC.1 hC.2.1 dX9_serve_140 rfl (lv_at hl 0 rfl) ?_
                      refine lv_iload_n hC.1 hC.2.1 dX9_serve_141 rfl (lv_at hl 2 rfl) ?_
                      refine lv_iload_n hC.1 hC.2.1 dX9_serve_142 rfl (lv_at hl 3 rfl) ?_
                      refine g_callv0 hS (g_runV (n := 2) (rest := []) (As := [.int x2, .int x3]) (C := RX9) (T := TX9) (N := 17) hC hS hk14 rfl rfl (c_X9_lend l G ks ad w x2 x3 V28 _ h _) (gI wq_1243 wq_1245 wq_34 wq_47 wq_1246) rfl ⟨⟨by decide +kernel, by decide +kernel, by decide +kernel⟩, rfl, rfl, Nat.le_of_ble_eq_true rfl, Nat.le_of_ble_eq_true rfl⟩ rfl hl rfl (Nat.le_of_ble_eq_true rfl) dX9_serve_143 ⟨Nat.le_of_ble_eq_true rfl, Nat.le_of_ble_eq_true rfl⟩) (fun V29 H locs h hS => ?_)
                      obtain ⟨y30, ey30⟩ : ∃ z : Int32, z = x3 + 1 := ⟨_, rfl⟩
                      have h := h y30 ey30
                      refine lv_iinc (v := y30) (lv' := [(3, .int y30), (0, .ref (ad 16 w 0)), (1, .int x1), (2, .int x2)]) hC.1 hC.2.1 dX9_serve_146 hl (k := 3) rfl (by rw [ey30]; rfl) (by decide) rfl (fun ls hl => ?_)
                      refine lv_goto (tgt := 64) hC.1 hC.2.1 dX9_serve_149 (by decide) ?_
                      exact kB64 _ _ _ _ _ h hS (lv_sub hl [1, 2, 3, 0] rfl)
                    · have h := h.1 c31
                      refine lv_goto (tgt := 146) hC.1 hC.2.1 dX9_serve_131 (by decide) ?_
                      obtain ⟨y27, ey27⟩ : ∃ z : Int32, z = x3 + 1 := ⟨_, rfl⟩
                      have h := h y27 ey27
                      refine lv_iinc (v := y27) (lv' := [(3, .int y27), (0, .ref (ad 16 w 0)), (1, .int x1), (2, .int x2)]) hC.1 hC.2.1 dX9_serve_146 hl (k := 3) rfl (by rw [ey27]; rfl) (by decide) rfl (fun ls hl => ?_)
                      refine lv_goto (tgt := 64) hC.1 hC.2.1 dX9_serve_149 (by decide) ?_
                      exact kB64 _ _ _ _ _ h hS (lv_sub hl [1, 2, 3, 0] rfl)
      refine lv_iload_n hC.1 hC.2.1 dX9_serve_51 rfl (lv_at hl 2 rfl) ?_
      refine lv_aload_n hC.1 hC.2.1 dX9_serve_52 rfl (lv_at hl 0 rfl) ?_
      obtain ⟨hk40, h⟩ := h
      refine gf_16_16 hC hS hk40 wq_1008 dX9_serve_53 ?_
      obtain ⟨hk41, h⟩ := h
      refine gn_15_8 hC hS hk41 wq_1060 dX9_serve_56 ?_
      refine lv_icmp_ge (tgt := 158) hC.1 hC.2.1 dX9_serve_59 (by decide) (fun c42 => ?_) (fun c42 => ?_)
      · have h := h.1 c42
        refine lv_iconst (v := 0) hC.1 hC.2.1 dX9_serve_158 (by decide) ?_
        refine lv_istore_n (lv' := [(2, .int 0), (0, .ref (ad 16 w 0)), (1, .int x1)]) hC.1 hC.2.1 dX9_serve_159 rfl hl (by decide) rfl (fun ls hl => ?_)
        exact kT160 _ _ _ _ _ _ h hS (lv_sub hl [1, 2, 0] rfl)
      · have h := h.2 c42
        refine lv_iconst (v := 0) hC.1 hC.2.1 dX9_serve_62 (by decide) ?_
        refine lv_istore_n (lv' := [(3, .int 0), (0, .ref (ad 16 w 0)), (1, .int x1), (2, .int x2)]) hC.1 hC.2.1 dX9_serve_63 rfl hl (by decide) rfl (fun ls hl => ?_)
        exact kT64 _ _ _ _ _ _ h hS (lv_sub hl [1, 2, 3, 0] rfl)
  have kT12 : ∀ (x1 : Int32) (x2 : Int32) (V : VS) (H : Heap) (locs : List Loc) (ls : Array Slot), wl_X9_serve_12 ks w a1 post x1 x2 V → ST G ks ad V (mA ks ad sz) s.heap H locs → lv_has ls 4 [(0, .ref (ad 16 w 0)), (1, .int x1), (2, .int x2)] → W p l e ({ frames := 2, cells := 0, slots := 0, locals := 44 } : Room) s m args below meth c H locs 0 0 (MQ below (mQv post G ks ad sz) args s 0 0 (mA ks ad sz)) (F0 m 12 ls []) := by
    intro x1 x2 V H locs ls h hS hl
    obtain ⟨J, ⟨n, hJ⟩, hb⟩ := h
    induction n using Nat.strongRecOn generalizing x2 V H locs ls with
    | _ n ih =>
      have h := hb n x2 V hJ
      obtain ⟨B12, eB⟩ : ∃ z : Int32 → VS → Prop, z = (fun x2 V => ∃ n', n' < n ∧ J n' x2 V) := ⟨_, rfl⟩
      rw [← eB] at h
      have kB12 : ∀ (x2 : Int32) (V : VS) (H : Heap) (locs : List Loc) (ls : Array Slot), B12 x2 V → ST G ks ad V (mA ks ad sz) s.heap H locs → lv_has ls 4 [(0, .ref (ad 16 w 0)), (1, .int x1), (2, .int x2)] → W p l e ({ frames := 2, cells := 0, slots := 0, locals := 44 } : Room) s m args below meth c H locs 0 0 (MQ below (mQv post G ks ad sz) args s 0 0 (mA ks ad sz)) (F0 m 12 ls []) := by
        intro x2 V H locs ls h hS hl
        rw [eB] at h
        obtain ⟨n', hn, hJ'⟩ := h
        exact ih n' hn _ _ _ _ _ hS hl hJ'
      clear ih hJ hb eB
      unfold wk_X9_serve_12 at h
      refine lv_iload_n hC.1 hC.2.1 dX9_serve_12 rfl (lv_at hl 2 rfl) ?_
      refine lv_aload_n hC.1 hC.2.1 dX9_serve_13 rfl (lv_at hl 0 rfl) ?_
      obtain ⟨hk43, h⟩ := h
      refine gf_16_16 hC hS hk43 wq_1008 dX9_serve_14 ?_
      obtain ⟨hk44, h⟩ := h
      refine gn_15_8 hC hS hk44 wq_1060 dX9_serve_17 ?_
      refine lv_icmp_ge (tgt := 49) hC.1 hC.2.1 dX9_serve_20 (by decide) (fun c51 => ?_) (fun c51 => ?_)
      · have h := h.1 c51
        refine lv_iconst (v := 0) hC.1 hC.2.1 dX9_serve_49 (by decide) ?_
        refine lv_istore_n (lv' := [(2, .int 0), (0, .ref (ad 16 w 0)), (1, .int x1)]) hC.1 hC.2.1 dX9_serve_50 rfl hl (by decide) rfl (fun ls hl => ?_)
        exact kT51 _ _ _ _ _ _ h hS (lv_sub hl [1, 2, 0] rfl)
      · have h := h.2 c51
        refine lv_aload_n hC.1 hC.2.1 dX9_serve_23 rfl (lv_at hl 0 rfl) ?_
        refine gf_16_16 hC hS hk43 wq_1008 dX9_serve_24 ?_
        refine gn_15_9 hC hS hk44 wq_1062 dX9_serve_27 ?_
        refine lv_iconst (v := 3) hC.1 hC.2.1 dX9_serve_30 (by decide) ?_
        refine lv_iload_n hC.1 hC.2.1 dX9_serve_31 rfl (lv_at hl 2 rfl) ?_
        refine lv_imul hC.1 hC.2.1 dX9_serve_32 ?_
        obtain ⟨hk45, h⟩ := h
        obtain ⟨hx46, h⟩ := h
        refine g_iald hC hS hk45 (by decide) hx46 dX9_serve_33 ?_
        refine lv_iload_n hC.1 hC.2.1 dX9_serve_34 rfl (lv_at hl 1 rfl) ?_
        refine lv_icmp_ne (tgt := 43) hC.1 hC.2.1 dX9_serve_35 (by decide) (fun c50 => ?_) (fun c50 => ?_)
        · have h := h.2 c50
          obtain ⟨y49, ey49⟩ : ∃ z : Int32, z = x2 + 1 := ⟨_, rfl⟩
          have h := h y49 ey49
          refine lv_iinc (v := y49) (lv' := [(2, .int y49), (0, .ref (ad 16 w 0)), (1, .int x1)]) hC.1 hC.2.1 dX9_serve_43 hl (k := 2) rfl (by rw [ey49]; rfl) (by decide) rfl (fun ls hl => ?_)
          refine lv_goto (tgt := 12) hC.1 hC.2.1 dX9_serve_46 (by decide) ?_
          exact kB12 _ _ _ _ _ h hS (lv_sub hl [1, 2, 0] rfl)
        · have h := h.1 c50
          refine lv_aload_n hC.1 hC.2.1 dX9_serve_38 rfl (lv_at hl 0 rfl) ?_
          refine lv_iload_n hC.1 hC.2.1 dX9_serve_39 rfl (lv_at hl 2 rfl) ?_
          refine g_callv0 hS (g_runV (n := 1) (rest := []) (As := [.int x2]) (C := RX9) (T := TX9) (N := 17) hC hS hk43 rfl rfl (c_X9_bringBack l G ks ad w x2 V _ h _) (gI wq_1237 wq_1239 wq_33 wq_47 wq_1240) rfl ⟨⟨by decide +kernel, by decide +kernel, by decide +kernel⟩, rfl, rfl, Nat.le_of_ble_eq_true rfl, Nat.le_of_ble_eq_true rfl⟩ rfl hl rfl (Nat.le_of_ble_eq_true rfl) dX9_serve_40 ⟨Nat.le_of_ble_eq_true rfl, Nat.le_of_ble_eq_true rfl⟩) (fun V47 H locs h hS => ?_)
          obtain ⟨y48, ey48⟩ : ∃ z : Int32, z = x2 + 1 := ⟨_, rfl⟩
          have h := h y48 ey48
          refine lv_iinc (v := y48) (lv' := [(2, .int y48), (0, .ref (ad 16 w 0)), (1, .int x1)]) hC.1 hC.2.1 dX9_serve_43 hl (k := 2) rfl (by rw [ey48]; rfl) (by decide) rfl (fun ls hl => ?_)
          refine lv_goto (tgt := 12) hC.1 hC.2.1 dX9_serve_46 (by decide) ?_
          exact kB12 _ _ _ _ _ h hS (lv_sub hl [1, 2, 0] rfl)
  refine lv_aload_n hC.1 hC.2.1 dX9_serve_0 rfl (lv_at hl 0 rfl) ?_
  obtain ⟨hk52, h⟩ := h
  refine gf_16_6 hC hS hk52 wq_988 dX9_serve_1 ?_
  refine lv_iload_n hC.1 hC.2.1 dX9_serve_4 rfl (lv_at hl 1 rfl) ?_
  refine lv_dup2_11 hC.1 hC.2.1 dX9_serve_5 rfl rfl ?_
  obtain ⟨hk53, h⟩ := h
  obtain ⟨hx54, h⟩ := h
  refine g_iald hC hS hk53 (by decide) hx54 dX9_serve_6 ?_
  refine lv_iconst (v := 1) hC.1 hC.2.1 dX9_serve_7 (by decide) ?_
  refine lv_iadd hC.1 hC.2.1 dX9_serve_8 ?_
  refine g_iast hC hS hk53 (by decide) hx54 dX9_serve_9 (fun H locs hS => ?_)
  obtain ⟨V55, eV55⟩ : ∃ z : VS, z = vup V 24 w 0 0 a1.toNatClampNeg ((V 24 w 0 0 a1.toNatClampNeg) + 1) := ⟨_, rfl⟩
  rw [← eV55] at hS
  have h := h V55 eV55
  refine lv_iconst (v := 0) hC.1 hC.2.1 dX9_serve_10 (by decide) ?_
  refine lv_istore_n (lv' := [(2, .int 0), (0, .ref (ad 16 w 0)), (1, .int a1)]) hC.1 hC.2.1 dX9_serve_11 rfl hl (by decide) rfl (fun ls hl => ?_)
  exact kT12 _ _ _ _ _ _ h hS (lv_sub hl [1, 2, 0] rfl)
def wk_X9_pass_108 (ks : List KY) (w : Nat) (post : Int32 → VS → Prop) (B108 : Int32 → Int32 → VS → Prop) (x1 : Int32) (x3 : Int32) (x4 : Int32) (V : VS) : Prop := ((16, w, 0) ∈ ks ∧ ((V 16 w 0 5 0) ≤ x4 → ((15, 0, 0) ∈ ks ∧ (21, 0, 0) ∈ ks ∧ vp_in (8 * x3) 64 ∧ ∀ V5 : VS, V5 = vup V 16 w 0 1 0 ((V 16 w 0 1 0) + (V 21 0 0 0 (8 * x3).toNatClampNeg)) → ∀ V6 : VS, V6 = vup V5 16 w 0 0 0 ((V5 16 w 0 0 0) + 1) → post ((V6 16 w 0 2 0) - x1) V6)) ∧ (¬ ((V 16 w 0 5 0) ≤ x4) → ((23, w, 0) ∈ ks ∧ vp_in x4 8 ∧ ∀ y9 : Int32, y9 = V 23 w 0 0 x4.toNatClampNeg → (15, 0, 0) ∈ ks ∧ (21, 0, 0) ∈ ks ∧ vp_in ((8 * x3) + y9) 64 ∧ vp_in (8 * y9) 64 ∧ ∀ y14 : Int32, y14 = (((V 16 w 0 1 0) + (V 21 0 0 0 ((8 * x3) + y9).toNatClampNeg)) + 5) + (V 21 0 0 0 (8 * y9).toNatClampNeg) → (y14 ≤ (V 15 0 0 5 0) → (∀ V15 : VS, V15 = vup V 16 w 0 1 0 ((V 16 w 0 1 0) + ((V 21 0 0 0 ((8 * x3) + y9).toNatClampNeg) + 5)) → wp_X9_serve ks w y9 V15 (fun V16 => (∀ y17 : Int32, y17 = x4 + 1 → B108 y9 y17 V16)))) ∧ (¬ (y14 ≤ (V 15 0 0 5 0)) → ((25, w, 0) ∈ ks ∧ vp_in y9 8 ∧ ∀ V20 : VS, V20 = vup V 25 w 0 0 y9.toNatClampNeg ((V 25 w 0 0 y9.toNatClampNeg) + 1) → ∀ y21 : Int32, y21 = x4 + 1 → B108 x3 y21 V20)))))
def wl_X9_pass_108 (ks : List KY) (w : Nat) (post : Int32 → VS → Prop) (x1 : Int32) (x3 : Int32) (x4 : Int32) (V : VS) : Prop := ∃ J : Nat → Int32 → Int32 → VS → Prop, (∃ n, J n x3 x4 V) ∧ ∀ (n : Nat) (x3 : Int32) (x4 : Int32) (V : VS), J n x3 x4 V → wk_X9_pass_108 ks w post (fun x3 x4 V => ∃ n', n' < n ∧ J n' x3 x4 V) x1 x3 x4 V
def wk_X9_pass_23 (ks : List KY) (w : Nat) (post : Int32 → VS → Prop) (B23 : Int32 → VS → Prop) (x1 : Int32) (x2 : Int32) (x3 : Int32) (V : VS) : Prop := ((16, w, 0) ∈ ks ∧ (15, 0, 0) ∈ ks ∧ ((V 15 0 0 2 0) ≤ x3 → (wp_X9_find ks w V (fun V26 => (∀ V27 : VS, V27 = vup V26 16 w 0 1 0 0 → wl_X9_pass_108 ks w post x1 0 0 V27)))) ∧ (¬ ((V 15 0 0 2 0) ≤ x3) → ((x2 ≤ 0 → ((22, w, 0) ∈ ks ∧ vp_in x3 16 ∧ ∀ V30 : VS, V30 = vup V 22 w 0 0 x3.toNatClampNeg (if (0 : Int32) < ((V 22 w 0 0 x3.toNatClampNeg) - 2) then ((V 22 w 0 0 x3.toNatClampNeg) - 2) else (0 : Int32)) → ∀ y31 : Int32, y31 = x3 + 1 → B23 y31 V30)) ∧ (¬ (x2 ≤ 0) → ((22, w, 0) ∈ ks ∧ vp_in x3 16 ∧ (17, 0, 0) ∈ ks ∧ vp_in ((4 * x3) + 3) 64 ∧ ∀ V36 : VS, V36 = vup V 22 w 0 0 x3.toNatClampNeg (if ((V 22 w 0 0 x3.toNatClampNeg) + ((x2 * (V 17 0 0 0 ((4 * x3) + 3).toNatClampNeg)) / 4)) < (20 : Int32) then ((V 22 w 0 0 x3.toNatClampNeg) + ((x2 * (V 17 0 0 0 ((4 * x3) + 3).toNatClampNeg)) / 4)) else (20 : Int32)) → ∀ y37 : Int32, y37 = x3 + 1 → B23 y37 V36)))))
def wl_X9_pass_23 (ks : List KY) (w : Nat) (post : Int32 → VS → Prop) (x1 : Int32) (x2 : Int32) (x3 : Int32) (V : VS) : Prop := ∃ J : Nat → Int32 → VS → Prop, (∃ n, J n x3 V) ∧ ∀ (n : Nat) (x3 : Int32) (V : VS), J n x3 V → wk_X9_pass_23 ks w post (fun x3 V => ∃ n', n' < n ∧ J n' x3 V) x1 x2 x3 V
def wp_X9_pass (ks : List KY) (w : Nat) (V : VS) (post : Int32 → VS → Prop) : Prop := ((16, w, 0) ∈ ks ∧ ∀ y41 : Int32, y41 = V 16 w 0 2 0 → (15, 0, 0) ∈ ks ∧ (18, 0, 0) ∈ ks ∧ vp_in ((V 16 w 0 0 0) - (V 16 w 0 0 0) / 7 * 7) 7 ∧ ∀ y45 : Int32, y45 = V 18 0 0 0 ((V 16 w 0 0 0) - (V 16 w 0 0 0) / 7 * 7).toNatClampNeg → wl_X9_pass_23 ks w post y41 y45 0 V)
set_option maxHeartbeats 4000000 in
set_option maxRecDepth 100000 in
theorem c_X9_pass (l : Launch) (G : GG) (ks : List KY) (ad : AD) (w : Nat) (V : VS) (post : Int32 → VS → Prop) (h : wp_X9_pass ks w V post) (sz : Nat) : Met l yX9_pass (ws_ yX9_pass cX9_pass 7 (some .int)) ({ frames := 3, cells := 0, slots := 0, locals := 67 }) (mPc [.ref (ad 16 w 0)] G ks ad V sz) (mQi post G ks ad sz) 0 0 (mA ks ad sz) := by
  refine g_met (own := RX9) (by decide) rfl (Nat.le_of_ble_eq_true rfl) ?_
  intro p e s m args below meth c ls hC hsz hr hlk hin hS ha hl
  have hl : lv_has ls 7 [(0, .ref (ad 16 w 0))] := hl
  unfold wp_X9_pass at h
  have kT108 : ∀ (x1 : Int32) (x3 : Int32) (x4 : Int32) (V : VS) (H : Heap) (locs : List Loc) (ls : Array Slot), wl_X9_pass_108 ks w post x1 x3 x4 V → ST G ks ad V (mA ks ad sz) s.heap H locs → lv_has ls 7 [(0, .ref (ad 16 w 0)), (1, .int x1), (3, .int x3), (4, .int x4)] → W p l e ({ frames := 3, cells := 0, slots := 0, locals := 67 } : Room) s m args below meth c H locs 0 0 (MQ below (mQi post G ks ad sz) args s 0 0 (mA ks ad sz)) (F0 m 108 ls []) := by
    intro x1 x3 x4 V H locs ls h hS hl
    obtain ⟨J, ⟨n, hJ⟩, hb⟩ := h
    induction n using Nat.strongRecOn generalizing x3 x4 V H locs ls with
    | _ n ih =>
      have h := hb n x3 x4 V hJ
      obtain ⟨B108, eB⟩ : ∃ z : Int32 → Int32 → VS → Prop, z = (fun x3 x4 V => ∃ n', n' < n ∧ J n' x3 x4 V) := ⟨_, rfl⟩
      rw [← eB] at h
      have kB108 : ∀ (x3 : Int32) (x4 : Int32) (V : VS) (H : Heap) (locs : List Loc) (ls : Array Slot), B108 x3 x4 V → ST G ks ad V (mA ks ad sz) s.heap H locs → lv_has ls 7 [(0, .ref (ad 16 w 0)), (1, .int x1), (3, .int x3), (4, .int x4)] → W p l e ({ frames := 3, cells := 0, slots := 0, locals := 67 } : Room) s m args below meth c H locs 0 0 (MQ below (mQi post G ks ad sz) args s 0 0 (mA ks ad sz)) (F0 m 108 ls []) := by
        intro x3 x4 V H locs ls h hS hl
        rw [eB] at h
        obtain ⟨n', hn, hJ'⟩ := h
        exact ih n' hn _ _ _ _ _ _ hS hl hJ'
      clear ih hJ hb eB
      unfold wk_X9_pass_108 at h
      refine lv_iload hC.1 hC.2.1 dX9_pass_108 (lv_at hl 3 rfl) ?_
      refine lv_aload_n hC.1 hC.2.1 dX9_pass_110 rfl (lv_at hl 0 rfl) ?_
      obtain ⟨hk1, h⟩ := h
      refine gf_16_5 hC hS hk1 wq_986 dX9_pass_111 ?_
      refine lv_icmp_ge (tgt := 231) hC.1 hC.2.1 dX9_pass_114 (by decide) (fun c23 => ?_) (fun c23 => ?_)
      · have h := h.1 c23
        refine lv_aload_n hC.1 hC.2.1 dX9_pass_231 rfl (lv_at hl 0 rfl) ?_
        refine lv_dup hC.1 hC.2.1 dX9_pass_232 rfl ?_
        refine gf_16_1 hC hS hk1 wq_978 dX9_pass_233 ?_
        refine lv_aload_n hC.1 hC.2.1 dX9_pass_236 rfl (lv_at hl 0 rfl) ?_
        refine gf_16_16 hC hS hk1 wq_1008 dX9_pass_237 ?_
        obtain ⟨hk2, h⟩ := h
        refine gn_15_10 hC hS hk2 wq_1064 dX9_pass_240 ?_
        refine lv_bipush (v := 8) hC.1 hC.2.1 dX9_pass_243 (by decide) ?_
        refine lv_iload_n hC.1 hC.2.1 dX9_pass_245 rfl (lv_at hl 2 rfl) ?_
        refine lv_imul hC.1 hC.2.1 dX9_pass_246 ?_
        obtain ⟨hk3, h⟩ := h
        obtain ⟨hx4, h⟩ := h
        refine g_iald hC hS hk3 (by decide) hx4 dX9_pass_247 ?_
        refine lv_iadd hC.1 hC.2.1 dX9_pass_248 ?_
        refine pf_16_1 hC hS hk1 wq_978 dX9_pass_249 (fun H locs hS => ?_)
        obtain ⟨V5, eV5⟩ : ∃ z : VS, z = vup V 16 w 0 1 0 ((V 16 w 0 1 0) + (V 21 0 0 0 (8 * x3).toNatClampNeg)) := ⟨_, rfl⟩
        rw [← eV5] at hS
        have h := h V5 eV5
        refine lv_aload_n hC.1 hC.2.1 dX9_pass_252 rfl (lv_at hl 0 rfl) ?_
        refine lv_dup hC.1 hC.2.1 dX9_pass_253 rfl ?_
        refine gf_16_0 hC hS hk1 wq_976 dX9_pass_254 ?_
        refine lv_iconst (v := 1) hC.1 hC.2.1 dX9_pass_257 (by decide) ?_
        refine lv_iadd hC.1 hC.2.1 dX9_pass_258 ?_
        refine pf_16_0 hC hS hk1 wq_976 dX9_pass_259 (fun H locs hS => ?_)
        obtain ⟨V6, eV6⟩ : ∃ z : VS, z = vup V5 16 w 0 0 0 ((V5 16 w 0 0 0) + 1) := ⟨_, rfl⟩
        rw [← eV6] at hS
        have h := h V6 eV6
        refine lv_aload_n hC.1 hC.2.1 dX9_pass_262 rfl (lv_at hl 0 rfl) ?_
        refine gf_16_2 hC hS hk1 wq_980 dX9_pass_263 ?_
        refine lv_iload_n hC.1 hC.2.1 dX9_pass_266 rfl (lv_at hl 1 rfl) ?_
        refine lv_isub hC.1 hC.2.1 dX9_pass_267 ?_
        exact g_iret hC hr hlk hS h dX9_pass_268
      · have h := h.2 c23
        refine lv_aload_n hC.1 hC.2.1 dX9_pass_117 rfl (lv_at hl 0 rfl) ?_
        refine gf_16_4 hC hS hk1 wq_984 dX9_pass_118 ?_
        refine lv_iload hC.1 hC.2.1 dX9_pass_121 (lv_at hl 3 rfl) ?_
        obtain ⟨hk7, h⟩ := h
        obtain ⟨hx8, h⟩ := h
        refine g_iald hC hS hk7 (by decide) hx8 dX9_pass_123 ?_
        refine lv_topi (fun y9 ey9 => ?_)
        have h := h y9 ey9
        refine lv_istore (lv' := [(5, .int y9), (0, .ref (ad 16 w 0)), (1, .int x1), (3, .int x3), (4, .int x4)]) hC.1 hC.2.1 dX9_pass_124 hl (by decide) rfl (fun ls hl => ?_)
        refine lv_aload_n hC.1 hC.2.1 dX9_pass_126 rfl (lv_at hl 1 rfl) ?_
        refine gf_16_1 hC hS hk1 wq_978 dX9_pass_127 ?_
        refine lv_aload_n hC.1 hC.2.1 dX9_pass_130 rfl (lv_at hl 1 rfl) ?_
        refine gf_16_16 hC hS hk1 wq_1008 dX9_pass_131 ?_
        obtain ⟨hk10, h⟩ := h
        refine gn_15_10 hC hS hk10 wq_1064 dX9_pass_134 ?_
        refine lv_bipush (v := 8) hC.1 hC.2.1 dX9_pass_137 (by decide) ?_
        refine lv_iload_n hC.1 hC.2.1 dX9_pass_139 rfl (lv_at hl 3 rfl) ?_
        refine lv_imul hC.1 hC.2.1 dX9_pass_140 ?_
        refine lv_iload hC.1 hC.2.1 dX9_pass_141 (lv_at hl 0 rfl) ?_
        refine lv_iadd hC.1 hC.2.1 dX9_pass_143 ?_
        obtain ⟨hk11, h⟩ := h
        obtain ⟨hx12, h⟩ := h
        refine g_iald hC hS hk11 (by decide) hx12 dX9_pass_144 ?_
        refine lv_iadd hC.1 hC.2.1 dX9_pass_145 ?_
        refine lv_iconst (v := 5) hC.1 hC.2.1 dX9_pass_146 (by decide) ?_
        refine lv_iadd hC.1 hC.2.1 dX9_pass_147 ?_
        refine lv_aload_n hC.1 hC.2.1 dX9_pass_148 rfl (lv_at hl 1 rfl) ?_
        refine gf_16_16 hC hS hk1 wq_1008 dX9_pass_149 ?_
        refine gn_15_10 hC hS hk10 wq_1064 dX9_pass_152 ?_
        refine lv_bipush (v := 8) hC.1 hC.2.1 dX9_pass_155 (by decide) ?_
        refine lv_iload hC.1 hC.2.1 dX9_pass_157 (lv_at hl 0 rfl) ?_
        refine lv_imul hC.1 hC.2.1 dX9_pass_159 ?_
        obtain ⟨hx13, h⟩ := h
        refine g_iald hC hS hk11 (by decide) hx13 dX9_pass_160 ?_
        refine lv_iadd hC.1 hC.2.1 dX9_pass_161 ?_
        refine lv_topi (fun y14 ey14 => ?_)
        have h := h y14 ey14
        refine lv_istore (lv' := [(6, .int y14), (5, .int y9), (0, .ref (ad 16 w 0)), (1, .int x1), (3, .int x3), (4, .int x4)]) hC.1 hC.2.1 dX9_pass_162 hl (by decide) rfl (fun ls hl => ?_)
        refine lv_iload hC.1 hC.2.1 dX9_pass_164 (lv_at hl 0 rfl) ?_
        refine lv_aload_n hC.1 hC.2.1 dX9_pass_166 rfl (lv_at hl 2 rfl) ?_
        refine gf_16_16 hC hS hk1 wq_1008 dX9_pass_167 ?_
        refine gn_15_5 hC hS hk10 wq_1054 dX9_pass_170 ?_
        refine lv_icmp_le (tgt := 190) hC.1 hC.2.1 dX9_pass_173 (by decide) (fun c22 => ?_) (fun c22 => ?_)
        · have h := h.1 c22
          refine lv_aload_n hC.1 hC.2.1 dX9_pass_190 rfl (lv_at hl 2 rfl) ?_
          refine lv_dup hC.1 hC.2.1 dX9_pass_191 rfl ?_
          refine gf_16_1 hC hS hk1 wq_978 dX9_pass_192 ?_
          refine lv_aload_n hC.1 hC.2.1 dX9_pass_195 rfl (lv_at hl 2 rfl) ?_
          refine gf_16_16 hC hS hk1 wq_1008 dX9_pass_196 ?_
          refine gn_15_10 hC hS hk10 wq_1064 dX9_pass_199 ?_
          refine lv_bipush (v := 8) hC.1 hC.2.1 dX9_pass_202 (by decide) ?_
          refine lv_iload_n hC.1 hC.2.1 dX9_pass_204 rfl (lv_at hl 4 rfl) ?_
          refine lv_imul hC.1 hC.2.1 dX9_pass_205 ?_
          refine lv_iload hC.1 hC.2.1 dX9_pass_206 (lv_at hl 1 rfl) ?_
          refine lv_iadd hC.1 hC.2.1 dX9_pass_208 ?_
          refine g_iald hC hS hk11 (by decide) hx12 dX9_pass_209 ?_
          refine lv_iconst (v := 5) hC.1 hC.2.1 dX9_pass_210 (by decide) ?_
          refine lv_iadd hC.1 hC.2.1 dX9_pass_211 ?_
          refine lv_iadd hC.1 hC.2.1 dX9_pass_212 ?_
          refine pf_16_1 hC hS hk1 wq_978 dX9_pass_213 (fun H locs hS => ?_)
          obtain ⟨V15, eV15⟩ : ∃ z : VS, z = vup V 16 w 0 1 0 ((V 16 w 0 1 0) + ((V 21 0 0 0 ((8 * x3) + y9).toNatClampNeg) + 5)) := ⟨_, rfl⟩
          rw [← eV15] at hS
          have h := h V15 eV15
          refine lv_iload hC.1 hC.2.1 dX9_pass_216 (lv_at hl 1 rfl) ?_
          refine lv_istore_n (lv' := [(3, .int y9), (6, .int y14), (5, .int y9), (0, .ref (ad 16 w 0)), (1, .int x1), (4, .int x4)]) hC.1 hC.2.1 dX9_pass_218 rfl hl (by decide) rfl (fun ls hl => ?_)
          refine lv_aload_n hC.1 hC.2.1 dX9_pass_219 rfl (lv_at hl 3 rfl) ?_
          refine lv_iload hC.1 hC.2.1 dX9_pass_220 (lv_at hl 2 rfl) ?_
          refine g_callv0 hS (g_runV (n := 1) (rest := []) (As := [.int y9]) (C := RX9) (T := TX9) (N := 17) hC hS hk1 rfl rfl (c_X9_serve l G ks ad w y9 V15 _ h _) (gI wq_1233 wq_1235 wq_32 wq_47 wq_1236) rfl ⟨⟨by decide +kernel, by decide +kernel, by decide +kernel⟩, rfl, rfl, Nat.le_of_ble_eq_true rfl, Nat.le_of_ble_eq_true rfl⟩ rfl hl rfl (Nat.le_of_ble_eq_true rfl) dX9_pass_222 ⟨Nat.le_of_ble_eq_true rfl, Nat.le_of_ble_eq_true rfl⟩) (fun V16 H locs h hS => ?_)
          obtain ⟨y17, ey17⟩ : ∃ z : Int32, z = x4 + 1 := ⟨_, rfl⟩
          have h := h y17 ey17
          refine lv_iinc (v := y17) (lv' := [(4, .int y17), (3, .int y9), (6, .int y14), (5, .int y9), (0, .ref (ad 16 w 0)), (1, .int x1)]) hC.1 hC.2.1 dX9_pass_225 hl (k := 5) rfl (by rw [ey17]; rfl) (by decide) rfl (fun ls hl => ?_)
          refine lv_goto (tgt := 108) hC.1 hC.2.1 dX9_pass_228 (by decide) ?_
          exact kB108 _ _ _ _ _ _ h hS (lv_sub hl [4, 5, 1, 0] rfl)
        · have h := h.2 c22
          refine lv_aload_n hC.1 hC.2.1 dX9_pass_176 rfl (lv_at hl 2 rfl) ?_
          refine gf_16_7 hC hS hk1 wq_990 dX9_pass_177 ?_
          refine lv_iload hC.1 hC.2.1 dX9_pass_180 (lv_at hl 1 rfl) ?_
          refine lv_dup2_11 hC.1 hC.2.1 dX9_pass_182 rfl rfl ?_
          obtain ⟨hk18, h⟩ := h
          obtain ⟨hx19, h⟩ := h
          refine g_iald hC hS hk18 (by decide) hx19 dX9_pass_183 ?_
          refine lv_iconst (v := 1) hC.1 hC.2.1 dX9_pass_184 (by decide) ?_
          refine lv_iadd hC.1 hC.2.1 dX9_pass_185 ?_
          refine g_iast hC hS hk18 (by decide) hx19 dX9_pass_186 (fun H locs hS => ?_)
          obtain ⟨V20, eV20⟩ : ∃ z : VS, z = vup V 25 w 0 0 y9.toNatClampNeg ((V 25 w 0 0 y9.toNatClampNeg) + 1) := ⟨_, rfl⟩
          rw [← eV20] at hS
          have h := h V20 eV20
          refine lv_goto (tgt := 225) hC.1 hC.2.1 dX9_pass_187 (by decide) ?_
          obtain ⟨y21, ey21⟩ : ∃ z : Int32, z = x4 + 1 := ⟨_, rfl⟩
          have h := h y21 ey21
          refine lv_iinc (v := y21) (lv' := [(4, .int y21), (6, .int y14), (5, .int y9), (0, .ref (ad 16 w 0)), (1, .int x1), (3, .int x3)]) hC.1 hC.2.1 dX9_pass_225 hl (k := 5) rfl (by rw [ey21]; rfl) (by decide) rfl (fun ls hl => ?_)
          refine lv_goto (tgt := 108) hC.1 hC.2.1 dX9_pass_228 (by decide) ?_
          exact kB108 _ _ _ _ _ _ h hS (lv_sub hl [3, 4, 5, 0] rfl)
  have kT23 : ∀ (x1 : Int32) (x2 : Int32) (x3 : Int32) (V : VS) (H : Heap) (locs : List Loc) (ls : Array Slot), wl_X9_pass_23 ks w post x1 x2 x3 V → ST G ks ad V (mA ks ad sz) s.heap H locs → lv_has ls 7 [(0, .ref (ad 16 w 0)), (1, .int x1), (2, .int x2), (3, .int x3)] → W p l e ({ frames := 3, cells := 0, slots := 0, locals := 67 } : Room) s m args below meth c H locs 0 0 (MQ below (mQi post G ks ad sz) args s 0 0 (mA ks ad sz)) (F0 m 23 ls []) := by
    intro x1 x2 x3 V H locs ls h hS hl
    obtain ⟨J, ⟨n, hJ⟩, hb⟩ := h
    induction n using Nat.strongRecOn generalizing x3 V H locs ls with
    | _ n ih =>
      have h := hb n x3 V hJ
      obtain ⟨B23, eB⟩ : ∃ z : Int32 → VS → Prop, z = (fun x3 V => ∃ n', n' < n ∧ J n' x3 V) := ⟨_, rfl⟩
      rw [← eB] at h
      have kB23 : ∀ (x3 : Int32) (V : VS) (H : Heap) (locs : List Loc) (ls : Array Slot), B23 x3 V → ST G ks ad V (mA ks ad sz) s.heap H locs → lv_has ls 7 [(0, .ref (ad 16 w 0)), (1, .int x1), (2, .int x2), (3, .int x3)] → W p l e ({ frames := 3, cells := 0, slots := 0, locals := 67 } : Room) s m args below meth c H locs 0 0 (MQ below (mQi post G ks ad sz) args s 0 0 (mA ks ad sz)) (F0 m 23 ls []) := by
        intro x3 V H locs ls h hS hl
        rw [eB] at h
        obtain ⟨n', hn, hJ'⟩ := h
        exact ih n' hn _ _ _ _ _ hS hl hJ'
      clear ih hJ hb eB
      unfold wk_X9_pass_23 at h
      refine lv_iload_n hC.1 hC.2.1 dX9_pass_23 rfl (lv_at hl 3 rfl) ?_
      refine lv_aload_n hC.1 hC.2.1 dX9_pass_24 rfl (lv_at hl 0 rfl) ?_
      obtain ⟨hk24, h⟩ := h
      refine gf_16_16 hC hS hk24 wq_1008 dX9_pass_25 ?_
      obtain ⟨hk25, h⟩ := h
      refine gn_15_2 hC hS hk25 wq_1047 dX9_pass_28 ?_
      refine lv_icmp_ge (tgt := 94) hC.1 hC.2.1 dX9_pass_31 (by decide) (fun c39 => ?_) (fun c39 => ?_)
      · have h := h.1 c39
        refine lv_aload_n hC.1 hC.2.1 dX9_pass_94 rfl (lv_at hl 0 rfl) ?_
        refine g_callv0 hS (g_runV (n := 0) (rest := []) (As := []) (C := RX9) (T := TX9) (N := 17) hC hS hk24 rfl rfl (c_X9_find l G ks ad w V _ h _) (gI wq_1232 wq_1152 wq_1153 wq_47 wq_1154) rfl ⟨⟨by decide +kernel, by decide +kernel, by decide +kernel⟩, rfl, rfl, Nat.le_of_ble_eq_true rfl, Nat.le_of_ble_eq_true rfl⟩ rfl hl rfl (Nat.le_of_ble_eq_true rfl) dX9_pass_95 ⟨Nat.le_of_ble_eq_true rfl, Nat.le_of_ble_eq_true rfl⟩) (fun V26 H locs h hS => ?_)
        refine lv_iconst (v := 0) hC.1 hC.2.1 dX9_pass_98 (by decide) ?_
        refine lv_istore_n (lv' := [(3, .int 0), (0, .ref (ad 16 w 0)), (1, .int x1), (2, .int x2)]) hC.1 hC.2.1 dX9_pass_99 rfl hl (by decide) rfl (fun ls hl => ?_)
        refine lv_aload_n hC.1 hC.2.1 dX9_pass_100 rfl (lv_at hl 1 rfl) ?_
        refine lv_iconst (v := 0) hC.1 hC.2.1 dX9_pass_101 (by decide) ?_
        refine pf_16_1 hC hS hk24 wq_978 dX9_pass_102 (fun H locs hS => ?_)
        obtain ⟨V27, eV27⟩ : ∃ z : VS, z = vup V26 16 w 0 1 0 0 := ⟨_, rfl⟩
        rw [← eV27] at hS
        have h := h V27 eV27
        refine lv_iconst (v := 0) hC.1 hC.2.1 dX9_pass_105 (by decide) ?_
        refine lv_istore (lv' := [(4, .int 0), (3, .int 0), (0, .ref (ad 16 w 0)), (1, .int x1), (2, .int x2)]) hC.1 hC.2.1 dX9_pass_106 hl (by decide) rfl (fun ls hl => ?_)
        exact kT108 _ _ _ _ _ _ _ h hS (lv_sub hl [2, 3, 1, 0] rfl)
      · have h := h.2 c39
        refine lv_aload_n hC.1 hC.2.1 dX9_pass_34 rfl (lv_at hl 0 rfl) ?_
        refine gf_16_3 hC hS hk24 wq_982 dX9_pass_35 ?_
        refine lv_iload_n hC.1 hC.2.1 dX9_pass_38 rfl (lv_at hl 3 rfl) ?_
        refine lv_iload_n hC.1 hC.2.1 dX9_pass_39 rfl (lv_at hl 2 rfl) ?_
        refine lv_if_le (tgt := 75) hC.1 hC.2.1 dX9_pass_40 (by decide) (fun c38 => ?_) (fun c38 => ?_)
        · have h := h.1 c38
          refine lv_iconst (v := 0) hC.1 hC.2.1 dX9_pass_75 (by decide) ?_
          refine lv_aload_n hC.1 hC.2.1 dX9_pass_76 rfl (lv_at hl 0 rfl) ?_
          refine gf_16_3 hC hS hk24 wq_982 dX9_pass_77 ?_
          refine lv_iload_n hC.1 hC.2.1 dX9_pass_80 rfl (lv_at hl 3 rfl) ?_
          obtain ⟨hk28, h⟩ := h
          obtain ⟨hx29, h⟩ := h
          refine g_iald hC hS hk28 (by decide) hx29 dX9_pass_81 ?_
          refine lv_iconst (v := 2) hC.1 hC.2.1 dX9_pass_82 (by decide) ?_
          refine lv_isub hC.1 hC.2.1 dX9_pass_83 ?_
          refine va_mmax hC.1 hC.2.1 (hC.2.2.1.trans hl.1.symm) hC.2.2.2.1 (hC.2.2.2.2.1 _ wq_1231) (hC.2.2.2.2.1 _ wq_442) (hC.2.2.2.2.1 _ wq_54) (hC.2.2.2.2.1 _ wq_443) (by decide) (Nat.le_of_ble_eq_true rfl) (Nat.le_of_ble_eq_true rfl) (Nat.le_of_ble_eq_true rfl) dX9_pass_84 ?_
          refine g_iast hC hS hk28 (by decide) hx29 dX9_pass_87 (fun H locs hS => ?_)
          obtain ⟨V30, eV30⟩ : ∃ z : VS, z = vup V 22 w 0 0 x3.toNatClampNeg (if (0 : Int32) < ((V 22 w 0 0 x3.toNatClampNeg) - 2) then ((V 22 w 0 0 x3.toNatClampNeg) - 2) else (0 : Int32)) := ⟨_, rfl⟩
          rw [← eV30] at hS
          have h := h V30 eV30
          obtain ⟨y31, ey31⟩ : ∃ z : Int32, z = x3 + 1 := ⟨_, rfl⟩
          have h := h y31 ey31
          refine lv_iinc (v := y31) (lv' := [(3, .int y31), (0, .ref (ad 16 w 0)), (1, .int x1), (2, .int x2)]) hC.1 hC.2.1 dX9_pass_88 hl (k := 3) rfl (by rw [ey31]; rfl) (by decide) rfl (fun ls hl => ?_)
          refine lv_goto (tgt := 23) hC.1 hC.2.1 dX9_pass_91 (by decide) ?_
          exact kB23 _ _ _ _ _ h hS (lv_sub hl [1, 2, 3, 0] rfl)
        · have h := h.2 c38
          refine lv_bipush (v := 20) hC.1 hC.2.1 dX9_pass_43 (by decide) ?_
          refine lv_aload_n hC.1 hC.2.1 dX9_pass_45 rfl (lv_at hl 0 rfl) ?_
          refine gf_16_3 hC hS hk24 wq_982 dX9_pass_46 ?_
          refine lv_iload_n hC.1 hC.2.1 dX9_pass_49 rfl (lv_at hl 3 rfl) ?_
          obtain ⟨hk32, h⟩ := h
          obtain ⟨hx33, h⟩ := h
          refine g_iald hC hS hk32 (by decide) hx33 dX9_pass_50 ?_
          refine lv_iload_n hC.1 hC.2.1 dX9_pass_51 rfl (lv_at hl 2 rfl) ?_
          refine lv_aload_n hC.1 hC.2.1 dX9_pass_52 rfl (lv_at hl 0 rfl) ?_
          refine gf_16_16 hC hS hk24 wq_1008 dX9_pass_53 ?_
          refine gn_15_3 hC hS hk25 wq_1050 dX9_pass_56 ?_
          refine lv_iconst (v := 4) hC.1 hC.2.1 dX9_pass_59 (by decide) ?_
          refine lv_iload_n hC.1 hC.2.1 dX9_pass_60 rfl (lv_at hl 3 rfl) ?_
          refine lv_imul hC.1 hC.2.1 dX9_pass_61 ?_
          refine lv_iconst (v := 3) hC.1 hC.2.1 dX9_pass_62 (by decide) ?_
          refine lv_iadd hC.1 hC.2.1 dX9_pass_63 ?_
          obtain ⟨hk34, h⟩ := h
          obtain ⟨hx35, h⟩ := h
          refine g_iald hC hS hk34 (by decide) hx35 dX9_pass_64 ?_
          refine lv_imul hC.1 hC.2.1 dX9_pass_65 ?_
          refine lv_iconst (v := 4) hC.1 hC.2.1 dX9_pass_66 (by decide) ?_
          refine lv_idiv hC.1 hC.2.1 dX9_pass_67 (by decide) ?_
          refine lv_iadd hC.1 hC.2.1 dX9_pass_68 ?_
          refine va_mmin hC.1 hC.2.1 (hC.2.2.1.trans hl.1.symm) hC.2.2.2.1 (hC.2.2.2.2.1 _ wq_1230) (hC.2.2.2.2.1 _ wq_477) (hC.2.2.2.2.1 _ wq_54) (hC.2.2.2.2.1 _ wq_478) (by decide) (Nat.le_of_ble_eq_true rfl) (Nat.le_of_ble_eq_true rfl) (Nat.le_of_ble_eq_true rfl) dX9_pass_69 ?_
          refine lv_goto (tgt := 87) hC.1 hC.2.1 dX9_pass_72 (by decide) ?_
          refine g_iast hC hS hk32 (by decide) hx33 dX9_pass_87 (fun H locs hS => ?_)
          obtain ⟨V36, eV36⟩ : ∃ z : VS, z = vup V 22 w 0 0 x3.toNatClampNeg (if ((V 22 w 0 0 x3.toNatClampNeg) + ((x2 * (V 17 0 0 0 ((4 * x3) + 3).toNatClampNeg)) / 4)) < (20 : Int32) then ((V 22 w 0 0 x3.toNatClampNeg) + ((x2 * (V 17 0 0 0 ((4 * x3) + 3).toNatClampNeg)) / 4)) else (20 : Int32)) := ⟨_, rfl⟩
          rw [← eV36] at hS
          have h := h V36 eV36
          obtain ⟨y37, ey37⟩ : ∃ z : Int32, z = x3 + 1 := ⟨_, rfl⟩
          have h := h y37 ey37
          refine lv_iinc (v := y37) (lv' := [(3, .int y37), (0, .ref (ad 16 w 0)), (1, .int x1), (2, .int x2)]) hC.1 hC.2.1 dX9_pass_88 hl (k := 3) rfl (by rw [ey37]; rfl) (by decide) rfl (fun ls hl => ?_)
          refine lv_goto (tgt := 23) hC.1 hC.2.1 dX9_pass_91 (by decide) ?_
          exact kB23 _ _ _ _ _ h hS (lv_sub hl [1, 2, 3, 0] rfl)
  refine lv_aload_n hC.1 hC.2.1 dX9_pass_0 rfl (lv_at hl 0 rfl) ?_
  obtain ⟨hk40, h⟩ := h
  refine gf_16_2 hC hS hk40 wq_980 dX9_pass_1 ?_
  refine lv_topi (fun y41 ey41 => ?_)
  have h := h y41 ey41
  refine lv_istore_n (lv' := [(1, .int y41), (0, .ref (ad 16 w 0))]) hC.1 hC.2.1 dX9_pass_4 rfl hl (by decide) rfl (fun ls hl => ?_)
  refine lv_aload_n hC.1 hC.2.1 dX9_pass_5 rfl (lv_at hl 1 rfl) ?_
  refine gf_16_16 hC hS hk40 wq_1008 dX9_pass_6 ?_
  obtain ⟨hk42, h⟩ := h
  refine gn_15_4 hC hS hk42 wq_1052 dX9_pass_9 ?_
  refine lv_aload_n hC.1 hC.2.1 dX9_pass_12 rfl (lv_at hl 1 rfl) ?_
  refine gf_16_0 hC hS hk40 wq_976 dX9_pass_13 ?_
  refine lv_bipush (v := 7) hC.1 hC.2.1 dX9_pass_16 (by decide) ?_
  refine lv_irem hC.1 hC.2.1 dX9_pass_18 (by decide) ?_
  obtain ⟨hk43, h⟩ := h
  obtain ⟨hx44, h⟩ := h
  refine g_iald hC hS hk43 (by decide) hx44 dX9_pass_19 ?_
  refine lv_topi (fun y45 ey45 => ?_)
  have h := h y45 ey45
  refine lv_istore_n (lv' := [(2, .int y45), (1, .int y41), (0, .ref (ad 16 w 0))]) hC.1 hC.2.1 dX9_pass_20 rfl hl (by decide) rfl (fun ls hl => ?_)
  refine lv_iconst (v := 0) hC.1 hC.2.1 dX9_pass_21 (by decide) ?_
  refine lv_istore_n (lv' := [(3, .int 0), (2, .int y45), (1, .int y41), (0, .ref (ad 16 w 0))]) hC.1 hC.2.1 dX9_pass_22 rfl hl (by decide) rfl (fun ls hl => ?_)
  exact kT23 _ _ _ _ _ _ _ h hS (lv_sub hl [3, 2, 1, 0] rfl)
def wk_X9_owed_4 (ks : List KY) (w : Nat) (post : Int32 → VS → Prop) (B4 : Int32 → Int32 → VS → Prop) (x1 : Int32) (x2 : Int32) (V : VS) : Prop := ((16, w, 0) ∈ ks ∧ (15, 0, 0) ∈ ks ∧ ((V 15 0 0 8 0) ≤ x2 → (post x1 V)) ∧ (¬ ((V 15 0 0 8 0) ≤ x2) → ((32, w, 0) ∈ ks ∧ vp_in x2 10 ∧ ∀ y5 : Int32, y5 = x1 + (V 32 w 0 0 x2.toNatClampNeg) → ∀ y6 : Int32, y6 = x2 + 1 → B4 y5 y6 V)))
def wl_X9_owed_4 (ks : List KY) (w : Nat) (post : Int32 → VS → Prop) (x1 : Int32) (x2 : Int32) (V : VS) : Prop := ∃ J : Nat → Int32 → Int32 → VS → Prop, (∃ n, J n x1 x2 V) ∧ ∀ (n : Nat) (x1 : Int32) (x2 : Int32) (V : VS), J n x1 x2 V → wk_X9_owed_4 ks w post (fun x1 x2 V => ∃ n', n' < n ∧ J n' x1 x2 V) x1 x2 V
def wp_X9_owed (ks : List KY) (w : Nat) (V : VS) (post : Int32 → VS → Prop) : Prop := (wl_X9_owed_4 ks w post 0 0 V)
set_option maxHeartbeats 4000000 in
set_option maxRecDepth 100000 in
theorem c_X9_owed (l : Launch) (G : GG) (ks : List KY) (ad : AD) (w : Nat) (V : VS) (post : Int32 → VS → Prop) (h : wp_X9_owed ks w V post) (sz : Nat) : Met l yX9_owed (ws_ yX9_owed cX9_owed 3 (some .int)) ({ frames := 0, cells := 0, slots := 0, locals := 0 }) (mPc [.ref (ad 16 w 0)] G ks ad V sz) (mQi post G ks ad sz) 0 0 (mA ks ad sz) := by
  refine g_met (own := RX9) (by decide) rfl (Nat.le_of_ble_eq_true rfl) ?_
  intro p e s m args below meth c ls hC hsz hr hlk hin hS ha hl
  have hl : lv_has ls 3 [(0, .ref (ad 16 w 0))] := hl
  unfold wp_X9_owed at h
  have kT4 : ∀ (x1 : Int32) (x2 : Int32) (V : VS) (H : Heap) (locs : List Loc) (ls : Array Slot), wl_X9_owed_4 ks w post x1 x2 V → ST G ks ad V (mA ks ad sz) s.heap H locs → lv_has ls 3 [(0, .ref (ad 16 w 0)), (1, .int x1), (2, .int x2)] → W p l e ({ frames := 0, cells := 0, slots := 0, locals := 0 } : Room) s m args below meth c H locs 0 0 (MQ below (mQi post G ks ad sz) args s 0 0 (mA ks ad sz)) (F0 m 4 ls []) := by
    intro x1 x2 V H locs ls h hS hl
    obtain ⟨J, ⟨n, hJ⟩, hb⟩ := h
    induction n using Nat.strongRecOn generalizing x1 x2 V H locs ls with
    | _ n ih =>
      have h := hb n x1 x2 V hJ
      obtain ⟨B4, eB⟩ : ∃ z : Int32 → Int32 → VS → Prop, z = (fun x1 x2 V => ∃ n', n' < n ∧ J n' x1 x2 V) := ⟨_, rfl⟩
      rw [← eB] at h
      have kB4 : ∀ (x1 : Int32) (x2 : Int32) (V : VS) (H : Heap) (locs : List Loc) (ls : Array Slot), B4 x1 x2 V → ST G ks ad V (mA ks ad sz) s.heap H locs → lv_has ls 3 [(0, .ref (ad 16 w 0)), (1, .int x1), (2, .int x2)] → W p l e ({ frames := 0, cells := 0, slots := 0, locals := 0 } : Room) s m args below meth c H locs 0 0 (MQ below (mQi post G ks ad sz) args s 0 0 (mA ks ad sz)) (F0 m 4 ls []) := by
        intro x1 x2 V H locs ls h hS hl
        rw [eB] at h
        obtain ⟨n', hn, hJ'⟩ := h
        exact ih n' hn _ _ _ _ _ _ hS hl hJ'
      clear ih hJ hb eB
      unfold wk_X9_owed_4 at h
      refine lv_iload_n hC.1 hC.2.1 dX9_owed_4 rfl (lv_at hl 2 rfl) ?_
      refine lv_aload_n hC.1 hC.2.1 dX9_owed_5 rfl (lv_at hl 0 rfl) ?_
      obtain ⟨hk1, h⟩ := h
      refine gf_16_16 hC hS hk1 wq_1008 dX9_owed_6 ?_
      obtain ⟨hk2, h⟩ := h
      refine gn_15_8 hC hS hk2 wq_1060 dX9_owed_9 ?_
      refine lv_icmp_ge (tgt := 30) hC.1 hC.2.1 dX9_owed_12 (by decide) (fun c7 => ?_) (fun c7 => ?_)
      · have h := h.1 c7
        refine lv_iload_n hC.1 hC.2.1 dX9_owed_30 rfl (lv_at hl 1 rfl) ?_
        exact g_iret hC hr hlk hS h dX9_owed_31
      · have h := h.2 c7
        refine lv_iload_n hC.1 hC.2.1 dX9_owed_15 rfl (lv_at hl 1 rfl) ?_
        refine lv_aload_n hC.1 hC.2.1 dX9_owed_16 rfl (lv_at hl 0 rfl) ?_
        refine gf_16_14 hC hS hk1 wq_1004 dX9_owed_17 ?_
        refine lv_iload_n hC.1 hC.2.1 dX9_owed_20 rfl (lv_at hl 2 rfl) ?_
        obtain ⟨hk3, h⟩ := h
        obtain ⟨hx4, h⟩ := h
        refine g_iald hC hS hk3 (by decide) hx4 dX9_owed_21 ?_
        refine lv_iadd hC.1 hC.2.1 dX9_owed_22 ?_
        refine lv_topi (fun y5 ey5 => ?_)
        have h := h y5 ey5
        refine lv_istore_n (lv' := [(1, .int y5), (0, .ref (ad 16 w 0)), (2, .int x2)]) hC.1 hC.2.1 dX9_owed_23 rfl hl (by decide) rfl (fun ls hl => ?_)
        obtain ⟨y6, ey6⟩ : ∃ z : Int32, z = x2 + 1 := ⟨_, rfl⟩
        have h := h y6 ey6
        refine lv_iinc (v := y6) (lv' := [(2, .int y6), (1, .int y5), (0, .ref (ad 16 w 0))]) hC.1 hC.2.1 dX9_owed_24 hl (k := 2) rfl (by rw [ey6]; rfl) (by decide) rfl (fun ls hl => ?_)
        refine lv_goto (tgt := 4) hC.1 hC.2.1 dX9_owed_27 (by decide) ?_
        exact kB4 _ _ _ _ _ _ h hS (lv_sub hl [2, 1, 0] rfl)
  refine lv_iconst (v := 0) hC.1 hC.2.1 dX9_owed_0 (by decide) ?_
  refine lv_istore_n (lv' := [(1, .int 0), (0, .ref (ad 16 w 0))]) hC.1 hC.2.1 dX9_owed_1 rfl hl (by decide) rfl (fun ls hl => ?_)
  refine lv_iconst (v := 0) hC.1 hC.2.1 dX9_owed_2 (by decide) ?_
  refine lv_istore_n (lv' := [(2, .int 0), (1, .int 0), (0, .ref (ad 16 w 0))]) hC.1 hC.2.1 dX9_owed_3 rfl hl (by decide) rfl (fun ls hl => ?_)
  exact kT4 _ _ _ _ _ _ h hS (lv_sub hl [2, 1, 0] rfl)
def wk_X9_missedOnes_4 (ks : List KY) (w : Nat) (post : Int32 → VS → Prop) (B4 : Int32 → Int32 → VS → Prop) (x1 : Int32) (x2 : Int32) (V : VS) : Prop := ((16, w, 0) ∈ ks ∧ (15, 0, 0) ∈ ks ∧ ((V 15 0 0 1 0) ≤ x2 → (post x1 V)) ∧ (¬ ((V 15 0 0 1 0) ≤ x2) → ((25, w, 0) ∈ ks ∧ vp_in x2 8 ∧ ∀ y5 : Int32, y5 = x1 + (V 25 w 0 0 x2.toNatClampNeg) → ∀ y6 : Int32, y6 = x2 + 1 → B4 y5 y6 V)))
def wl_X9_missedOnes_4 (ks : List KY) (w : Nat) (post : Int32 → VS → Prop) (x1 : Int32) (x2 : Int32) (V : VS) : Prop := ∃ J : Nat → Int32 → Int32 → VS → Prop, (∃ n, J n x1 x2 V) ∧ ∀ (n : Nat) (x1 : Int32) (x2 : Int32) (V : VS), J n x1 x2 V → wk_X9_missedOnes_4 ks w post (fun x1 x2 V => ∃ n', n' < n ∧ J n' x1 x2 V) x1 x2 V
def wp_X9_missedOnes (ks : List KY) (w : Nat) (V : VS) (post : Int32 → VS → Prop) : Prop := (wl_X9_missedOnes_4 ks w post 0 0 V)
set_option maxHeartbeats 4000000 in
set_option maxRecDepth 100000 in
theorem c_X9_missedOnes (l : Launch) (G : GG) (ks : List KY) (ad : AD) (w : Nat) (V : VS) (post : Int32 → VS → Prop) (h : wp_X9_missedOnes ks w V post) (sz : Nat) : Met l yX9_missedOnes (ws_ yX9_missedOnes cX9_missedOnes 3 (some .int)) ({ frames := 0, cells := 0, slots := 0, locals := 0 }) (mPc [.ref (ad 16 w 0)] G ks ad V sz) (mQi post G ks ad sz) 0 0 (mA ks ad sz) := by
  refine g_met (own := RX9) (by decide) rfl (Nat.le_of_ble_eq_true rfl) ?_
  intro p e s m args below meth c ls hC hsz hr hlk hin hS ha hl
  have hl : lv_has ls 3 [(0, .ref (ad 16 w 0))] := hl
  unfold wp_X9_missedOnes at h
  have kT4 : ∀ (x1 : Int32) (x2 : Int32) (V : VS) (H : Heap) (locs : List Loc) (ls : Array Slot), wl_X9_missedOnes_4 ks w post x1 x2 V → ST G ks ad V (mA ks ad sz) s.heap H locs → lv_has ls 3 [(0, .ref (ad 16 w 0)), (1, .int x1), (2, .int x2)] → W p l e ({ frames := 0, cells := 0, slots := 0, locals := 0 } : Room) s m args below meth c H locs 0 0 (MQ below (mQi post G ks ad sz) args s 0 0 (mA ks ad sz)) (F0 m 4 ls []) := by
    intro x1 x2 V H locs ls h hS hl
    obtain ⟨J, ⟨n, hJ⟩, hb⟩ := h
    induction n using Nat.strongRecOn generalizing x1 x2 V H locs ls with
    | _ n ih =>
      have h := hb n x1 x2 V hJ
      obtain ⟨B4, eB⟩ : ∃ z : Int32 → Int32 → VS → Prop, z = (fun x1 x2 V => ∃ n', n' < n ∧ J n' x1 x2 V) := ⟨_, rfl⟩
      rw [← eB] at h
      have kB4 : ∀ (x1 : Int32) (x2 : Int32) (V : VS) (H : Heap) (locs : List Loc) (ls : Array Slot), B4 x1 x2 V → ST G ks ad V (mA ks ad sz) s.heap H locs → lv_has ls 3 [(0, .ref (ad 16 w 0)), (1, .int x1), (2, .int x2)] → W p l e ({ frames := 0, cells := 0, slots := 0, locals := 0 } : Room) s m args below meth c H locs 0 0 (MQ below (mQi post G ks ad sz) args s 0 0 (mA ks ad sz)) (F0 m 4 ls []) := by
        intro x1 x2 V H locs ls h hS hl
        rw [eB] at h
        obtain ⟨n', hn, hJ'⟩ := h
        exact ih n' hn _ _ _ _ _ _ hS hl hJ'
      clear ih hJ hb eB
      unfold wk_X9_missedOnes_4 at h
      refine lv_iload_n hC.1 hC.2.1 dX9_missedOnes_4 rfl (lv_at hl 2 rfl) ?_
      refine lv_aload_n hC.1 hC.2.1 dX9_missedOnes_5 rfl (lv_at hl 0 rfl) ?_
      obtain ⟨hk1, h⟩ := h
      refine gf_16_16 hC hS hk1 wq_1008 dX9_missedOnes_6 ?_
      obtain ⟨hk2, h⟩ := h
      refine gn_15_1 hC hS hk2 wq_1046 dX9_missedOnes_9 ?_
      refine lv_icmp_ge (tgt := 30) hC.1 hC.2.1 dX9_missedOnes_12 (by decide) (fun c7 => ?_) (fun c7 => ?_)
      · have h := h.1 c7
        refine lv_iload_n hC.1 hC.2.1 dX9_missedOnes_30 rfl (lv_at hl 1 rfl) ?_
        exact g_iret hC hr hlk hS h dX9_missedOnes_31
      · have h := h.2 c7
        refine lv_iload_n hC.1 hC.2.1 dX9_missedOnes_15 rfl (lv_at hl 1 rfl) ?_
        refine lv_aload_n hC.1 hC.2.1 dX9_missedOnes_16 rfl (lv_at hl 0 rfl) ?_
        refine gf_16_7 hC hS hk1 wq_990 dX9_missedOnes_17 ?_
        refine lv_iload_n hC.1 hC.2.1 dX9_missedOnes_20 rfl (lv_at hl 2 rfl) ?_
        obtain ⟨hk3, h⟩ := h
        obtain ⟨hx4, h⟩ := h
        refine g_iald hC hS hk3 (by decide) hx4 dX9_missedOnes_21 ?_
        refine lv_iadd hC.1 hC.2.1 dX9_missedOnes_22 ?_
        refine lv_topi (fun y5 ey5 => ?_)
        have h := h y5 ey5
        refine lv_istore_n (lv' := [(1, .int y5), (0, .ref (ad 16 w 0)), (2, .int x2)]) hC.1 hC.2.1 dX9_missedOnes_23 rfl hl (by decide) rfl (fun ls hl => ?_)
        obtain ⟨y6, ey6⟩ : ∃ z : Int32, z = x2 + 1 := ⟨_, rfl⟩
        have h := h y6 ey6
        refine lv_iinc (v := y6) (lv' := [(2, .int y6), (1, .int y5), (0, .ref (ad 16 w 0))]) hC.1 hC.2.1 dX9_missedOnes_24 hl (k := 2) rfl (by rw [ey6]; rfl) (by decide) rfl (fun ls hl => ?_)
        refine lv_goto (tgt := 4) hC.1 hC.2.1 dX9_missedOnes_27 (by decide) ?_
        exact kB4 _ _ _ _ _ _ h hS (lv_sub hl [2, 1, 0] rfl)
  refine lv_iconst (v := 0) hC.1 hC.2.1 dX9_missedOnes_0 (by decide) ?_
  refine lv_istore_n (lv' := [(1, .int 0), (0, .ref (ad 16 w 0))]) hC.1 hC.2.1 dX9_missedOnes_1 rfl hl (by decide) rfl (fun ls hl => ?_)
  refine lv_iconst (v := 0) hC.1 hC.2.1 dX9_missedOnes_2 (by decide) ?_
  refine lv_istore_n (lv' := [(2, .int 0), (1, .int 0), (0, .ref (ad 16 w 0))]) hC.1 hC.2.1 dX9_missedOnes_3 rfl hl (by decide) rfl (fun ls hl => ?_)
  exact kT4 _ _ _ _ _ _ h hS (lv_sub hl [2, 1, 0] rfl)
