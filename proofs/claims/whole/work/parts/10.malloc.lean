def wp_X10_addLane (ks : List KY) (a1 : Int32) (a2 : Int32) (a3 : Int32) (a4 : Int32) (V : VS) (post : Int32 → VS → Prop) : Prop := ((15, 0, 0) ∈ ks ∧ ∀ V2 : VS, V2 = vup V 15 0 0 0 0 0 → wp_X10_isHalt ks a1 V2 (fun r4 V3 => ((r4 = 0 → (wp_X10_no ks 1 V3 (fun r6 V5 => (post r6 V5)))) ∧ (¬ (r4 = 0) → (wp_X10_isHalt ks a2 V3 (fun r8 V7 => ((r8 = 0 → (wp_X10_no ks 1 V7 (fun r10 V9 => (post r10 V9)))) ∧ (¬ (r8 = 0) → ((a1 = a2 → (wp_X10_no ks 2 V7 (fun r12 V11 => (post r12 V11)))) ∧ (¬ (a1 = a2) → (wp_X10_isIn ks a3 1 30 V7 (fun r14 V13 => ((r14 = 0 → (wp_X10_no ks 2 V13 (fun r16 V15 => (post r16 V15)))) ∧ (¬ (r14 = 0) → (wp_X10_isIn ks a4 0 9 V13 (fun r18 V17 => ((r18 = 0 → (wp_X10_no ks 2 V17 (fun r20 V19 => (post r20 V19)))) ∧ (¬ (r18 = 0) → (((V17 15 0 0 2 0) = 16 → (wp_X10_no ks 3 V17 (fun r22 V21 => (post r22 V21)))) ∧ (¬ ((V17 15 0 0 2 0) = 16) → ((17, 0, 0) ∈ ks ∧ (¬ (0 : Int32) < 0 ∧ ¬ (4 * (V17 15 0 0 2 0)) < 0 ∧ ¬ (4 : Int32) < 0 ∧ (0 : Int32).toNatClampNeg + (4 : Int32).toNatClampNeg ≤ 4 ∧ (4 * (V17 15 0 0 2 0)).toNatClampNeg + (4 : Int32).toNatClampNeg ≤ aLen 17) ∧ ∀ V26 : VS, V26 = vrow V17 17 0 0 (va_cpy (upd (upd (upd (upd (fun _ => (0 : Int32)) (0 : Int32).toNatClampNeg a1) (1 : Int32).toNatClampNeg a2) (2 : Int32).toNatClampNeg a3) (3 : Int32).toNatClampNeg a4) (V17 17 0 0 0) (0 : Int32).toNatClampNeg (4 * (V17 15 0 0 2 0)).toNatClampNeg (4 : Int32).toNatClampNeg) → ∀ V27 : VS, V27 = vup V26 15 0 0 2 0 ((V26 15 0 0 2 0) + 1) → post ((V27 15 0 0 2 0) - 1) V27)))))))))))))))))))))
set_option maxHeartbeats 4000000 in
set_option maxRecDepth 100000 in
theorem c_X10_addLane (l : Launch) (G : GG) (ks : List KY) (ad : AD) (a1 : Int32) (a2 : Int32) (a3 : Int32) (a4 : Int32) (V : VS) (post : Int32 → VS → Prop) (h : wp_X10_addLane ks a1 a2 a3 a4 V post) (sz : Nat) : Met l yX10_addLane (ws_ yX10_addLane cX10_addLane 6 (some .int)) ({ frames := 2, cells := 1, slots := 4, locals := 43 }) (mPc [.ref (ad 15 0 0), .int a1, .int a2, .int a3, .int a4] G ks ad V sz) (mQi post G ks ad sz) 1 4 (mA ks ad sz) := by
  refine g_met (own := RX10) (by decide) rfl (Nat.le_of_ble_eq_true rfl) ?_
  intro p e s m args below meth c ls hC hsz hr hlk hin hS ha hl
  have hl : lv_has ls 6 [(0, .ref (ad 15 0 0)), (1, .int a1), (2, .int a2), (3, .int a3), (4, .int a4)] := hl
  unfold wp_X10_addLane at h
  refine lv_aload_n hC.1 hC.2.1 dX10_addLane_0 rfl (lv_at hl 0 rfl) ?_
  refine lv_iconst (v := 0) hC.1 hC.2.1 dX10_addLane_1 (by decide) ?_
  obtain ⟨hk1, h⟩ := h
  refine pf_15_0 hC hS hk1 wq_1044 dX10_addLane_2 (fun H locs hS => ?_)
  obtain ⟨V2, eV2⟩ : ∃ z : VS, z = vup V 15 0 0 0 0 0 := ⟨_, rfl⟩
  rw [← eV2] at hS
  have h := h V2 eV2
  refine lv_aload_n hC.1 hC.2.1 dX10_addLane_5 rfl (lv_at hl 0 rfl) ?_
  refine lv_iload_n hC.1 hC.2.1 dX10_addLane_6 rfl (lv_at hl 1 rfl) ?_
  refine g_calli0 hS (g_runV (n := 1) (rest := []) (As := [.int a1]) (C := RX10) (T := TX10) (N := 13) hC hS hk1 rfl rfl (c_X10_isHalt l G ks ad a1 V2 _ h _) (gI wq_1110 wq_1112 wq_24 wq_46 wq_1113) rfl ⟨⟨by decide +kernel, by decide +kernel, by decide +kernel⟩, rfl, rfl, Nat.le_of_ble_eq_true rfl, Nat.le_of_ble_eq_true rfl⟩ rfl hl rfl (Nat.le_of_ble_eq_true rfl) dX10_addLane_7 ⟨Nat.le_of_ble_eq_true rfl, Nat.le_of_ble_eq_true rfl⟩) (fun r4 V3 H locs h hS => ?_)
  refine lv_if_eq (tgt := 21) hC.1 hC.2.1 dX10_addLane_10 (by decide) (fun c33 => ?_) (fun c33 => ?_)
  · have h := h.1 c33
    refine lv_aload_n hC.1 hC.2.1 dX10_addLane_21 rfl (lv_at hl 0 rfl) ?_
    refine lv_iconst (v := 1) hC.1 hC.2.1 dX10_addLane_22 (by decide) ?_
    refine g_calli0 hS (g_runV (n := 1) (rest := []) (As := [.int 1]) (C := RX10) (T := TX10) (N := 13) hC hS hk1 rfl rfl (c_X10_no l G ks ad 1 V3 _ h _) (gI wq_1102 wq_1104 wq_23 wq_46 wq_1105) rfl ⟨⟨by decide +kernel, by decide +kernel, by decide +kernel⟩, rfl, rfl, Nat.le_of_ble_eq_true rfl, Nat.le_of_ble_eq_true rfl⟩ rfl hl rfl (Nat.le_of_ble_eq_true rfl) dX10_addLane_23 ⟨Nat.le_of_ble_eq_true rfl, Nat.le_of_ble_eq_true rfl⟩) (fun r6 V5 H locs h hS => ?_)
    refine W.widen (k := 1) (n := 4) (Nat.le_of_ble_eq_true rfl) (Nat.le_of_ble_eq_true rfl) ?_
    exact g_iret hC hr hlk hS h dX10_addLane_26
  · have h := h.2 c33
    refine lv_aload_n hC.1 hC.2.1 dX10_addLane_13 rfl (lv_at hl 0 rfl) ?_
    refine lv_iload_n hC.1 hC.2.1 dX10_addLane_14 rfl (lv_at hl 2 rfl) ?_
    refine g_calli0 hS (g_runV (n := 1) (rest := []) (As := [.int a2]) (C := RX10) (T := TX10) (N := 13) hC hS hk1 rfl rfl (c_X10_isHalt l G ks ad a2 V3 _ h _) (gI wq_1110 wq_1112 wq_24 wq_46 wq_1113) rfl ⟨⟨by decide +kernel, by decide +kernel, by decide +kernel⟩, rfl, rfl, Nat.le_of_ble_eq_true rfl, Nat.le_of_ble_eq_true rfl⟩ rfl hl rfl (Nat.le_of_ble_eq_true rfl) dX10_addLane_15 ⟨Nat.le_of_ble_eq_true rfl, Nat.le_of_ble_eq_true rfl⟩) (fun r8 V7 H locs h hS => ?_)
    refine lv_if_ne (tgt := 27) hC.1 hC.2.1 dX10_addLane_18 (by decide) (fun c32 => ?_) (fun c32 => ?_)
    · have h := h.2 c32
      refine lv_iload_n hC.1 hC.2.1 dX10_addLane_27 rfl (lv_at hl 1 rfl) ?_
      refine lv_iload_n hC.1 hC.2.1 dX10_addLane_28 rfl (lv_at hl 2 rfl) ?_
      refine lv_icmp_eq (tgt := 53) hC.1 hC.2.1 dX10_addLane_29 (by decide) (fun c31 => ?_) (fun c31 => ?_)
      · have h := h.1 c31
        refine lv_aload_n hC.1 hC.2.1 dX10_addLane_53 rfl (lv_at hl 0 rfl) ?_
        refine lv_iconst (v := 2) hC.1 hC.2.1 dX10_addLane_54 (by decide) ?_
        refine g_calli0 hS (g_runV (n := 1) (rest := []) (As := [.int 2]) (C := RX10) (T := TX10) (N := 13) hC hS hk1 rfl rfl (c_X10_no l G ks ad 2 V7 _ h _) (gI wq_1102 wq_1104 wq_23 wq_46 wq_1105) rfl ⟨⟨by decide +kernel, by decide +kernel, by decide +kernel⟩, rfl, rfl, Nat.le_of_ble_eq_true rfl, Nat.le_of_ble_eq_true rfl⟩ rfl hl rfl (Nat.le_of_ble_eq_true rfl) dX10_addLane_55 ⟨Nat.le_of_ble_eq_true rfl, Nat.le_of_ble_eq_true rfl⟩) (fun r12 V11 H locs h hS => ?_)
        refine W.widen (k := 1) (n := 4) (Nat.le_of_ble_eq_true rfl) (Nat.le_of_ble_eq_true rfl) ?_
        exact g_iret hC hr hlk hS h dX10_addLane_58
      · have h := h.2 c31
        refine lv_iload_n hC.1 hC.2.1 dX10_addLane_32 rfl (lv_at hl 3 rfl) ?_
        refine lv_iconst (v := 1) hC.1 hC.2.1 dX10_addLane_33 (by decide) ?_
        refine lv_bipush (v := 30) hC.1 hC.2.1 dX10_addLane_34 (by decide) ?_
        refine g_calli0 hS (g_runS (n := 3) (rest := []) (As := [.int a3, .int 1, .int 30]) hC hS (c_X10_isIn l G ks ad a3 1 30 V7 _ h _) (gIS wq_1114 wq_1115 wq_46 wq_1116) ⟨⟨by decide +kernel, by decide +kernel, by decide +kernel⟩, rfl, rfl, Nat.le_of_ble_eq_true rfl, Nat.le_of_ble_eq_true rfl⟩ rfl hl rfl (Nat.le_of_ble_eq_true rfl) dX10_addLane_36 ⟨Nat.le_of_ble_eq_true rfl, Nat.le_of_ble_eq_true rfl⟩) (fun r14 V13 H locs h hS => ?_)
        refine lv_if_eq (tgt := 53) hC.1 hC.2.1 dX10_addLane_39 (by decide) (fun c30 => ?_) (fun c30 => ?_)
        · have h := h.1 c30
          refine lv_aload_n hC.1 hC.2.1 dX10_addLane_53 rfl (lv_at hl 0 rfl) ?_
          refine lv_iconst (v := 2) hC.1 hC.2.1 dX10_addLane_54 (by decide) ?_
          refine g_calli0 hS (g_runV (n := 1) (rest := []) (As := [.int 2]) (C := RX10) (T := TX10) (N := 13) hC hS hk1 rfl rfl (c_X10_no l G ks ad 2 V13 _ h _) (gI wq_1102 wq_1104 wq_23 wq_46 wq_1105) rfl ⟨⟨by decide +kernel, by decide +kernel, by decide +kernel⟩, rfl, rfl, Nat.le_of_ble_eq_true rfl, Nat.le_of_ble_eq_true rfl⟩ rfl hl rfl (Nat.le_of_ble_eq_true rfl) dX10_addLane_55 ⟨Nat.le_of_ble_eq_true rfl, Nat.le_of_ble_eq_true rfl⟩) (fun r16 V15 H locs h hS => ?_)
          refine W.widen (k := 1) (n := 4) (Nat.le_of_ble_eq_true rfl) (Nat.le_of_ble_eq_true rfl) ?_
          exact g_iret hC hr hlk hS h dX10_addLane_58
        · have h := h.2 c30
          refine lv_iload hC.1 hC.2.1 dX10_addLane_42 (lv_at hl 4 rfl) ?_
          refine lv_iconst (v := 0) hC.1 hC.2.1 dX10_addLane_44 (by decide) ?_
          refine lv_bipush (v := 9) hC.1 hC.2.1 dX10_addLane_45 (by decide) ?_
          refine g_calli0 hS (g_runS (n := 3) (rest := []) (As := [.int a4, .int 0, .int 9]) hC hS (c_X10_isIn l G ks ad a4 0 9 V13 _ h _) (gIS wq_1114 wq_1115 wq_46 wq_1116) ⟨⟨by decide +kernel, by decide +kernel, by decide +kernel⟩, rfl, rfl, Nat.le_of_ble_eq_true rfl, Nat.le_of_ble_eq_true rfl⟩ rfl hl rfl (Nat.le_of_ble_eq_true rfl) dX10_addLane_47 ⟨Nat.le_of_ble_eq_true rfl, Nat.le_of_ble_eq_true rfl⟩) (fun r18 V17 H locs h hS => ?_)
          refine lv_if_ne (tgt := 59) hC.1 hC.2.1 dX10_addLane_50 (by decide) (fun c29 => ?_) (fun c29 => ?_)
          · have h := h.2 c29
            refine lv_aload_n hC.1 hC.2.1 dX10_addLane_59 rfl (lv_at hl 0 rfl) ?_
            refine gf_15_2 hC hS hk1 wq_1048 dX10_addLane_60 ?_
            refine lv_bipush (v := 16) hC.1 hC.2.1 dX10_addLane_63 (by decide) ?_
            refine lv_icmp_ne (tgt := 74) hC.1 hC.2.1 dX10_addLane_65 (by decide) (fun c28 => ?_) (fun c28 => ?_)
            · have h := h.2 c28
              refine lv_iconst (v := 4) hC.1 hC.2.1 dX10_addLane_74 (by decide) ?_
              refine t_new (n := 4) hC hS wq_116 (by decide) (by decide) (by decide) ⟨Nat.le_of_ble_eq_true rfl, Nat.le_of_ble_eq_true rfl⟩ dX10_addLane_75 (fun q23 H hT => ?_)
              have hS := hT.st
              refine W.widen (k := 1) (n := 4) (Nat.le_of_ble_eq_true rfl) (Nat.le_of_ble_eq_true rfl) ?_
              refine lv_dup hC.1 hC.2.1 dX10_addLane_77 rfl ?_
              refine lv_iconst (v := 0) hC.1 hC.2.1 dX10_addLane_78 (by decide) ?_
              refine lv_iload_n hC.1 hC.2.1 dX10_addLane_79 rfl (lv_at hl 1 rfl) ?_
              refine t_iast hC hT (by unfold vp_in; decide) dX10_addLane_80 (fun H locs hT => ?_)
              have hS := hT.st
              refine lv_dup hC.1 hC.2.1 dX10_addLane_81 rfl ?_
              refine lv_iconst (v := 1) hC.1 hC.2.1 dX10_addLane_82 (by decide) ?_
              refine lv_iload_n hC.1 hC.2.1 dX10_addLane_83 rfl (lv_at hl 2 rfl) ?_
              refine t_iast hC hT (by unfold vp_in; decide) dX10_addLane_84 (fun H locs hT => ?_)
              have hS := hT.st
              refine lv_dup hC.1 hC.2.1 dX10_addLane_85 rfl ?_
              refine lv_iconst (v := 2) hC.1 hC.2.1 dX10_addLane_86 (by decide) ?_
              refine lv_iload_n hC.1 hC.2.1 dX10_addLane_87 rfl (lv_at hl 3 rfl) ?_
              refine t_iast hC hT (by unfold vp_in; decide) dX10_addLane_88 (fun H locs hT => ?_)
              have hS := hT.st
              refine lv_dup hC.1 hC.2.1 dX10_addLane_89 rfl ?_
              refine lv_iconst (v := 3) hC.1 hC.2.1 dX10_addLane_90 (by decide) ?_
              refine lv_iload hC.1 hC.2.1 dX10_addLane_91 (lv_at hl 4 rfl) ?_
              refine t_iast hC hT (by unfold vp_in; decide) dX10_addLane_93 (fun H locs hT => ?_)
              have hS := hT.st
              refine lv_astore (lv' := [(5, .ref q23), (0, .ref (ad 15 0 0)), (1, .int a1), (2, .int a2), (3, .int a3), (4, .int a4)]) hC.1 hC.2.1 dX10_addLane_94 hl (by decide) rfl (fun ls hl => ?_)
              refine lv_aload hC.1 hC.2.1 dX10_addLane_96 (lv_at hl 0 rfl) ?_
              refine lv_iconst (v := 0) hC.1 hC.2.1 dX10_addLane_98 (by decide) ?_
              refine lv_aload_n hC.1 hC.2.1 dX10_addLane_99 rfl (lv_at hl 1 rfl) ?_
              refine gf_15_3 hC hS hk1 wq_1049 dX10_addLane_100 ?_
              refine lv_iconst (v := 4) hC.1 hC.2.1 dX10_addLane_103 (by decide) ?_
              refine lv_aload_n hC.1 hC.2.1 dX10_addLane_104 rfl (lv_at hl 1 rfl) ?_
              refine gf_15_2 hC hS hk1 wq_1048 dX10_addLane_105 ?_
              refine lv_imul hC.1 hC.2.1 dX10_addLane_108 ?_
              refine lv_iconst (v := 4) hC.1 hC.2.1 dX10_addLane_109 (by decide) ?_
              obtain ⟨hk24, h⟩ := h
              obtain ⟨hq25, h⟩ := h
              refine t_copy hC hT hl hk24 (by decide) hq25.1 hq25.2.1 hq25.2.2.1 hq25.2.2.2.1 hq25.2.2.2.2 wq_1117 wq_481 wq_480 wq_56 ⟨Nat.le_of_ble_eq_true rfl, Nat.le_of_ble_eq_true rfl⟩ dX10_addLane_110 (fun H locs hS => ?_)
              obtain ⟨V26, eV26⟩ : ∃ z : VS, z = vrow V17 17 0 0 (va_cpy (upd (upd (upd (upd (fun _ => (0 : Int32)) (0 : Int32).toNatClampNeg a1) (1 : Int32).toNatClampNeg a2) (2 : Int32).toNatClampNeg a3) (3 : Int32).toNatClampNeg a4) (V17 17 0 0 0) (0 : Int32).toNatClampNeg (4 * (V17 15 0 0 2 0)).toNatClampNeg (4 : Int32).toNatClampNeg) := ⟨_, rfl⟩
              rw [← eV26] at hS
              have h := h V26 eV26
              refine lv_aload_n hC.1 hC.2.1 dX10_addLane_113 rfl (lv_at hl 1 rfl) ?_
              refine lv_dup hC.1 hC.2.1 dX10_addLane_114 rfl ?_
              refine gf_15_2 hC hS hk1 wq_1048 dX10_addLane_115 ?_
              refine lv_iconst (v := 1) hC.1 hC.2.1 dX10_addLane_118 (by decide) ?_
              refine lv_iadd hC.1 hC.2.1 dX10_addLane_119 ?_
              refine pf_15_2 hC hS hk1 wq_1048 dX10_addLane_120 (fun H locs hS => ?_)
              obtain ⟨V27, eV27⟩ : ∃ z : VS, z = vup V26 15 0 0 2 0 ((V26 15 0 0 2 0) + 1) := ⟨_, rfl⟩
              rw [← eV27] at hS
              have h := h V27 eV27
              refine lv_aload_n hC.1 hC.2.1 dX10_addLane_123 rfl (lv_at hl 1 rfl) ?_
              refine gf_15_2 hC hS hk1 wq_1048 dX10_addLane_124 ?_
              refine lv_iconst (v := 1) hC.1 hC.2.1 dX10_addLane_127 (by decide) ?_
              refine lv_isub hC.1 hC.2.1 dX10_addLane_128 ?_
              exact g_iret hC hr hlk hS h dX10_addLane_129
            · have h := h.1 c28
              refine lv_aload_n hC.1 hC.2.1 dX10_addLane_68 rfl (lv_at hl 0 rfl) ?_
              refine lv_iconst (v := 3) hC.1 hC.2.1 dX10_addLane_69 (by decide) ?_
              refine g_calli0 hS (g_runV (n := 1) (rest := []) (As := [.int 3]) (C := RX10) (T := TX10) (N := 13) hC hS hk1 rfl rfl (c_X10_no l G ks ad 3 V17 _ h _) (gI wq_1102 wq_1104 wq_23 wq_46 wq_1105) rfl ⟨⟨by decide +kernel, by decide +kernel, by decide +kernel⟩, rfl, rfl, Nat.le_of_ble_eq_true rfl, Nat.le_of_ble_eq_true rfl⟩ rfl hl rfl (Nat.le_of_ble_eq_true rfl) dX10_addLane_70 ⟨Nat.le_of_ble_eq_true rfl, Nat.le_of_ble_eq_true rfl⟩) (fun r22 V21 H locs h hS => ?_)
              refine W.widen (k := 1) (n := 4) (Nat.le_of_ble_eq_true rfl) (Nat.le_of_ble_eq_true rfl) ?_
              exact g_iret hC hr hlk hS h dX10_addLane_73
          · have h := h.1 c29
            refine lv_aload_n hC.1 hC.2.1 dX10_addLane_53 rfl (lv_at hl 0 rfl) ?_
            refine lv_iconst (v := 2) hC.1 hC.2.1 dX10_addLane_54 (by decide) ?_
            refine g_calli0 hS (g_runV (n := 1) (rest := []) (As := [.int 2]) (C := RX10) (T := TX10) (N := 13) hC hS hk1 rfl rfl (c_X10_no l G ks ad 2 V17 _ h _) (gI wq_1102 wq_1104 wq_23 wq_46 wq_1105) rfl ⟨⟨by decide +kernel, by decide +kernel, by decide +kernel⟩, rfl, rfl, Nat.le_of_ble_eq_true rfl, Nat.le_of_ble_eq_true rfl⟩ rfl hl rfl (Nat.le_of_ble_eq_true rfl) dX10_addLane_55 ⟨Nat.le_of_ble_eq_true rfl, Nat.le_of_ble_eq_true rfl⟩) (fun r20 V19 H locs h hS => ?_)
            refine W.widen (k := 1) (n := 4) (Nat.le_of_ble_eq_true rfl) (Nat.le_of_ble_eq_true rfl) ?_
            exact g_iret hC hr hlk hS h dX10_addLane_58
    · have h := h.1 c32
      refine lv_aload_n hC.1 hC.2.1 dX10_addLane_21 rfl (lv_at hl 0 rfl) ?_
      refine lv_iconst (v := 1) hC.1 hC.2.1 dX10_addLane_22 (by decide) ?_
      refine g_calli0 hS (g_runV (n := 1) (rest := []) (As := [.int 1]) (C := RX10) (T := TX10) (N := 13) hC hS hk1 rfl rfl (c_X10_no l G ks ad 1 V7 _ h _) (gI wq_1102 wq_1104 wq_23 wq_46 wq_1105) rfl ⟨⟨by decide +kernel, by decide +kernel, by decide +kernel⟩, rfl, rfl, Nat.le_of_ble_eq_true rfl, Nat.le_of_ble_eq_true rfl⟩ rfl hl rfl (Nat.le_of_ble_eq_true rfl) dX10_addLane_23 ⟨Nat.le_of_ble_eq_true rfl, Nat.le_of_ble_eq_true rfl⟩) (fun r10 V9 H locs h hS => ?_)
      refine W.widen (k := 1) (n := 4) (Nat.le_of_ble_eq_true rfl) (Nat.le_of_ble_eq_true rfl) ?_
      exact g_iret hC hr hlk hS h dX10_addLane_26
def wp_X10_addReader (ks : List KY) (a1 : Int32) (a2 : Int32) (a3 : Int32) (V : VS) (post : Int32 → VS → Prop) : Prop := ((15, 0, 0) ∈ ks ∧ ∀ V2 : VS, V2 = vup V 15 0 0 0 0 0 → wp_X10_isHalt ks a1 V2 (fun r4 V3 => ((r4 = 0 → (wp_X10_no ks 1 V3 (fun r6 V5 => (post r6 V5)))) ∧ (¬ (r4 = 0) → (wp_X10_isIn ks a2 0 5 V3 (fun r8 V7 => ((r8 = 0 → (wp_X10_no ks 2 V7 (fun r10 V9 => (post r10 V9)))) ∧ (¬ (r8 = 0) → (wp_X10_isIn ks a3 1 30 V7 (fun r12 V11 => ((r12 = 0 → (wp_X10_no ks 2 V11 (fun r14 V13 => (post r14 V13)))) ∧ (¬ (r12 = 0) → (((V11 15 0 0 8 0) = 10 → (wp_X10_no ks 3 V11 (fun r16 V15 => (post r16 V15)))) ∧ (¬ ((V11 15 0 0 8 0) = 10) → ((20, 0, 0) ∈ ks ∧ (¬ (0 : Int32) < 0 ∧ ¬ (3 * (V11 15 0 0 8 0)) < 0 ∧ ¬ (3 : Int32) < 0 ∧ (0 : Int32).toNatClampNeg + (3 : Int32).toNatClampNeg ≤ 3 ∧ (3 * (V11 15 0 0 8 0)).toNatClampNeg + (3 : Int32).toNatClampNeg ≤ aLen 20) ∧ ∀ V20 : VS, V20 = vrow V11 20 0 0 (va_cpy (upd (upd (upd (fun _ => (0 : Int32)) (0 : Int32).toNatClampNeg a1) (1 : Int32).toNatClampNeg a2) (2 : Int32).toNatClampNeg a3) (V11 20 0 0 0) (0 : Int32).toNatClampNeg (3 * (V11 15 0 0 8 0)).toNatClampNeg (3 : Int32).toNatClampNeg) → ∀ V21 : VS, V21 = vup V20 15 0 0 8 0 ((V20 15 0 0 8 0) + 1) → post ((V21 15 0 0 8 0) - 1) V21)))))))))))))))
set_option maxHeartbeats 4000000 in
set_option maxRecDepth 100000 in
theorem c_X10_addReader (l : Launch) (G : GG) (ks : List KY) (ad : AD) (a1 : Int32) (a2 : Int32) (a3 : Int32) (V : VS) (post : Int32 → VS → Prop) (h : wp_X10_addReader ks a1 a2 a3 V post) (sz : Nat) : Met l yX10_addReader (ws_ yX10_addReader cX10_addReader 5 (some .int)) ({ frames := 2, cells := 1, slots := 3, locals := 43 }) (mPc [.ref (ad 15 0 0), .int a1, .int a2, .int a3] G ks ad V sz) (mQi post G ks ad sz) 1 3 (mA ks ad sz) := by
  refine g_met (own := RX10) (by decide) rfl (Nat.le_of_ble_eq_true rfl) ?_
  intro p e s m args below meth c ls hC hsz hr hlk hin hS ha hl
  have hl : lv_has ls 5 [(0, .ref (ad 15 0 0)), (1, .int a1), (2, .int a2), (3, .int a3)] := hl
  unfold wp_X10_addReader at h
  refine lv_aload_n hC.1 hC.2.1 dX10_addReader_0 rfl (lv_at hl 0 rfl) ?_
  refine lv_iconst (v := 0) hC.1 hC.2.1 dX10_addReader_1 (by decide) ?_
  obtain ⟨hk1, h⟩ := h
  refine pf_15_0 hC hS hk1 wq_1044 dX10_addReader_2 (fun H locs hS => ?_)
  obtain ⟨V2, eV2⟩ : ∃ z : VS, z = vup V 15 0 0 0 0 0 := ⟨_, rfl⟩
  rw [← eV2] at hS
  have h := h V2 eV2
  refine lv_aload_n hC.1 hC.2.1 dX10_addReader_5 rfl (lv_at hl 0 rfl) ?_
  refine lv_iload_n hC.1 hC.2.1 dX10_addReader_6 rfl (lv_at hl 1 rfl) ?_
  refine g_calli0 hS (g_runV (n := 1) (rest := []) (As := [.int a1]) (C := RX10) (T := TX10) (N := 13) hC hS hk1 rfl rfl (c_X10_isHalt l G ks ad a1 V2 _ h _) (gI wq_1110 wq_1112 wq_24 wq_46 wq_1113) rfl ⟨⟨by decide +kernel, by decide +kernel, by decide +kernel⟩, rfl, rfl, Nat.le_of_ble_eq_true rfl, Nat.le_of_ble_eq_true rfl⟩ rfl hl rfl (Nat.le_of_ble_eq_true rfl) dX10_addReader_7 ⟨Nat.le_of_ble_eq_true rfl, Nat.le_of_ble_eq_true rfl⟩) (fun r4 V3 H locs h hS => ?_)
  refine lv_if_ne (tgt := 19) hC.1 hC.2.1 dX10_addReader_10 (by decide) (fun c25 => ?_) (fun c25 => ?_)
  · have h := h.2 c25
    refine lv_iload_n hC.1 hC.2.1 dX10_addReader_19 rfl (lv_at hl 2 rfl) ?_
    refine lv_iconst (v := 0) hC.1 hC.2.1 dX10_addReader_20 (by decide) ?_
    refine lv_iconst (v := 5) hC.1 hC.2.1 dX10_addReader_21 (by decide) ?_
    refine g_calli0 hS (g_runS (n := 3) (rest := []) (As := [.int a2, .int 0, .int 5]) hC hS (c_X10_isIn l G ks ad a2 0 5 V3 _ h _) (gIS wq_1114 wq_1115 wq_46 wq_1116) ⟨⟨by decide +kernel, by decide +kernel, by decide +kernel⟩, rfl, rfl, Nat.le_of_ble_eq_true rfl, Nat.le_of_ble_eq_true rfl⟩ rfl hl rfl (Nat.le_of_ble_eq_true rfl) dX10_addReader_22 ⟨Nat.le_of_ble_eq_true rfl, Nat.le_of_ble_eq_true rfl⟩) (fun r8 V7 H locs h hS => ?_)
    refine lv_if_eq (tgt := 38) hC.1 hC.2.1 dX10_addReader_25 (by decide) (fun c24 => ?_) (fun c24 => ?_)
    · have h := h.1 c24
      refine lv_aload_n hC.1 hC.2.1 dX10_addReader_38 rfl (lv_at hl 0 rfl) ?_
      refine lv_iconst (v := 2) hC.1 hC.2.1 dX10_addReader_39 (by decide) ?_
      refine g_calli0 hS (g_runV (n := 1) (rest := []) (As := [.int 2]) (C := RX10) (T := TX10) (N := 13) hC hS hk1 rfl rfl (c_X10_no l G ks ad 2 V7 _ h _) (gI wq_1102 wq_1104 wq_23 wq_46 wq_1105) rfl ⟨⟨by decide +kernel, by decide +kernel, by decide +kernel⟩, rfl, rfl, Nat.le_of_ble_eq_true rfl, Nat.le_of_ble_eq_true rfl⟩ rfl hl rfl (Nat.le_of_ble_eq_true rfl) dX10_addReader_40 ⟨Nat.le_of_ble_eq_true rfl, Nat.le_of_ble_eq_true rfl⟩) (fun r10 V9 H locs h hS => ?_)
      refine W.widen (k := 1) (n := 3) (Nat.le_of_ble_eq_true rfl) (Nat.le_of_ble_eq_true rfl) ?_
      exact g_iret hC hr hlk hS h dX10_addReader_43
    · have h := h.2 c24
      refine lv_iload_n hC.1 hC.2.1 dX10_addReader_28 rfl (lv_at hl 3 rfl) ?_
      refine lv_iconst (v := 1) hC.1 hC.2.1 dX10_addReader_29 (by decide) ?_
      refine lv_bipush (v := 30) hC.1 hC.2.1 dX10_addReader_30 (by decide) ?_
      refine g_calli0 hS (g_runS (n := 3) (rest := []) (As := [.int a3, .int 1, .int 30]) hC hS (c_X10_isIn l G ks ad a3 1 30 V7 _ h _) (gIS wq_1114 wq_1115 wq_46 wq_1116) ⟨⟨by decide +kernel, by decide +kernel, by decide +kernel⟩, rfl, rfl, Nat.le_of_ble_eq_true rfl, Nat.le_of_ble_eq_true rfl⟩ rfl hl rfl (Nat.le_of_ble_eq_true rfl) dX10_addReader_32 ⟨Nat.le_of_ble_eq_true rfl, Nat.le_of_ble_eq_true rfl⟩) (fun r12 V11 H locs h hS => ?_)
      refine lv_if_ne (tgt := 44) hC.1 hC.2.1 dX10_addReader_35 (by decide) (fun c23 => ?_) (fun c23 => ?_)
      · have h := h.2 c23
        refine lv_aload_n hC.1 hC.2.1 dX10_addReader_44 rfl (lv_at hl 0 rfl) ?_
        refine gf_15_8 hC hS hk1 wq_1059 dX10_addReader_45 ?_
        refine lv_bipush (v := 10) hC.1 hC.2.1 dX10_addReader_48 (by decide) ?_
        refine lv_icmp_ne (tgt := 59) hC.1 hC.2.1 dX10_addReader_50 (by decide) (fun c22 => ?_) (fun c22 => ?_)
        · have h := h.2 c22
          refine lv_iconst (v := 3) hC.1 hC.2.1 dX10_addReader_59 (by decide) ?_
          refine t_new (n := 3) hC hS wq_116 (by decide) (by decide) (by decide) ⟨Nat.le_of_ble_eq_true rfl, Nat.le_of_ble_eq_true rfl⟩ dX10_addReader_60 (fun q17 H hT => ?_)
          have hS := hT.st
          refine W.widen (k := 1) (n := 3) (Nat.le_of_ble_eq_true rfl) (Nat.le_of_ble_eq_true rfl) ?_
          refine lv_dup hC.1 hC.2.1 dX10_addReader_62 rfl ?_
          refine lv_iconst (v := 0) hC.1 hC.2.1 dX10_addReader_63 (by decide) ?_
          refine lv_iload_n hC.1 hC.2.1 dX10_addReader_64 rfl (lv_at hl 1 rfl) ?_
          refine t_iast hC hT (by unfold vp_in; decide) dX10_addReader_65 (fun H locs hT => ?_)
          have hS := hT.st
          refine lv_dup hC.1 hC.2.1 dX10_addReader_66 rfl ?_
          refine lv_iconst (v := 1) hC.1 hC.2.1 dX10_addReader_67 (by decide) ?_
          refine lv_iload_n hC.1 hC.2.1 dX10_addReader_68 rfl (lv_at hl 2 rfl) ?_
          refine t_iast hC hT (by unfold vp_in; decide) dX10_addReader_69 (fun H locs hT => ?_)
          have hS := hT.st
          refine lv_dup hC.1 hC.2.1 dX10_addReader_70 rfl ?_
          refine lv_iconst (v := 2) hC.1 hC.2.1 dX10_addReader_71 (by decide) ?_
          refine lv_iload_n hC.1 hC.2.1 dX10_addReader_72 rfl (lv_at hl 3 rfl) ?_
          refine t_iast hC hT (by unfold vp_in; decide) dX10_addReader_73 (fun H locs hT => ?_)
          have hS := hT.st
          refine lv_astore (lv' := [(4, .ref q17), (0, .ref (ad 15 0 0)), (1, .int a1), (2, .int a2), (3, .int a3)]) hC.1 hC.2.1 dX10_addReader_74 hl (by decide) rfl (fun ls hl => ?_)
          refine lv_aload hC.1 hC.2.1 dX10_addReader_76 (lv_at hl 0 rfl) ?_
          refine lv_iconst (v := 0) hC.1 hC.2.1 dX10_addReader_78 (by decide) ?_
          refine lv_aload_n hC.1 hC.2.1 dX10_addReader_79 rfl (lv_at hl 1 rfl) ?_
          refine gf_15_9 hC hS hk1 wq_1061 dX10_addReader_80 ?_
          refine lv_iconst (v := 3) hC.1 hC.2.1 dX10_addReader_83 (by decide) ?_
          refine lv_aload_n hC.1 hC.2.1 dX10_addReader_84 rfl (lv_at hl 1 rfl) ?_
          refine gf_15_8 hC hS hk1 wq_1059 dX10_addReader_85 ?_
          refine lv_imul hC.1 hC.2.1 dX10_addReader_88 ?_
          refine lv_iconst (v := 3) hC.1 hC.2.1 dX10_addReader_89 (by decide) ?_
          obtain ⟨hk18, h⟩ := h
          obtain ⟨hq19, h⟩ := h
          refine t_copy hC hT hl hk18 (by decide) hq19.1 hq19.2.1 hq19.2.2.1 hq19.2.2.2.1 hq19.2.2.2.2 wq_1117 wq_481 wq_480 wq_56 ⟨Nat.le_of_ble_eq_true rfl, Nat.le_of_ble_eq_true rfl⟩ dX10_addReader_90 (fun H locs hS => ?_)
          obtain ⟨V20, eV20⟩ : ∃ z : VS, z = vrow V11 20 0 0 (va_cpy (upd (upd (upd (fun _ => (0 : Int32)) (0 : Int32).toNatClampNeg a1) (1 : Int32).toNatClampNeg a2) (2 : Int32).toNatClampNeg a3) (V11 20 0 0 0) (0 : Int32).toNatClampNeg (3 * (V11 15 0 0 8 0)).toNatClampNeg (3 : Int32).toNatClampNeg) := ⟨_, rfl⟩
          rw [← eV20] at hS
          have h := h V20 eV20
          refine lv_aload_n hC.1 hC.2.1 dX10_addReader_93 rfl (lv_at hl 1 rfl) ?_
          refine lv_dup hC.1 hC.2.1 dX10_addReader_94 rfl ?_
          refine gf_15_8 hC hS hk1 wq_1059 dX10_addReader_95 ?_
          refine lv_iconst (v := 1) hC.1 hC.2.1 dX10_addReader_98 (by decide) ?_
          refine lv_iadd hC.1 hC.2.1 dX10_addReader_99 ?_
          refine pf_15_8 hC hS hk1 wq_1059 dX10_addReader_100 (fun H locs hS => ?_)
          obtain ⟨V21, eV21⟩ : ∃ z : VS, z = vup V20 15 0 0 8 0 ((V20 15 0 0 8 0) + 1) := ⟨_, rfl⟩
          rw [← eV21] at hS
          have h := h V21 eV21
          refine lv_aload_n hC.1 hC.2.1 dX10_addReader_103 rfl (lv_at hl 1 rfl) ?_
          refine gf_15_8 hC hS hk1 wq_1059 dX10_addReader_104 ?_
          refine lv_iconst (v := 1) hC.1 hC.2.1 dX10_addReader_107 (by decide) ?_
          refine lv_isub hC.1 hC.2.1 dX10_addReader_108 ?_
          exact g_iret hC hr hlk hS h dX10_addReader_109
        · have h := h.1 c22
          refine lv_aload_n hC.1 hC.2.1 dX10_addReader_53 rfl (lv_at hl 0 rfl) ?_
          refine lv_iconst (v := 3) hC.1 hC.2.1 dX10_addReader_54 (by decide) ?_
          refine g_calli0 hS (g_runV (n := 1) (rest := []) (As := [.int 3]) (C := RX10) (T := TX10) (N := 13) hC hS hk1 rfl rfl (c_X10_no l G ks ad 3 V11 _ h _) (gI wq_1102 wq_1104 wq_23 wq_46 wq_1105) rfl ⟨⟨by decide +kernel, by decide +kernel, by decide +kernel⟩, rfl, rfl, Nat.le_of_ble_eq_true rfl, Nat.le_of_ble_eq_true rfl⟩ rfl hl rfl (Nat.le_of_ble_eq_true rfl) dX10_addReader_55 ⟨Nat.le_of_ble_eq_true rfl, Nat.le_of_ble_eq_true rfl⟩) (fun r16 V15 H locs h hS => ?_)
          refine W.widen (k := 1) (n := 3) (Nat.le_of_ble_eq_true rfl) (Nat.le_of_ble_eq_true rfl) ?_
          exact g_iret hC hr hlk hS h dX10_addReader_58
      · have h := h.1 c23
        refine lv_aload_n hC.1 hC.2.1 dX10_addReader_38 rfl (lv_at hl 0 rfl) ?_
        refine lv_iconst (v := 2) hC.1 hC.2.1 dX10_addReader_39 (by decide) ?_
        refine g_calli0 hS (g_runV (n := 1) (rest := []) (As := [.int 2]) (C := RX10) (T := TX10) (N := 13) hC hS hk1 rfl rfl (c_X10_no l G ks ad 2 V11 _ h _) (gI wq_1102 wq_1104 wq_23 wq_46 wq_1105) rfl ⟨⟨by decide +kernel, by decide +kernel, by decide +kernel⟩, rfl, rfl, Nat.le_of_ble_eq_true rfl, Nat.le_of_ble_eq_true rfl⟩ rfl hl rfl (Nat.le_of_ble_eq_true rfl) dX10_addReader_40 ⟨Nat.le_of_ble_eq_true rfl, Nat.le_of_ble_eq_true rfl⟩) (fun r14 V13 H locs h hS => ?_)
        refine W.widen (k := 1) (n := 3) (Nat.le_of_ble_eq_true rfl) (Nat.le_of_ble_eq_true rfl) ?_
        exact g_iret hC hr hlk hS h dX10_addReader_43
  · have h := h.1 c25
    refine lv_aload_n hC.1 hC.2.1 dX10_addReader_13 rfl (lv_at hl 0 rfl) ?_
    refine lv_iconst (v := 1) hC.1 hC.2.1 dX10_addReader_14 (by decide) ?_
    refine g_calli0 hS (g_runV (n := 1) (rest := []) (As := [.int 1]) (C := RX10) (T := TX10) (N := 13) hC hS hk1 rfl rfl (c_X10_no l G ks ad 1 V3 _ h _) (gI wq_1102 wq_1104 wq_23 wq_46 wq_1105) rfl ⟨⟨by decide +kernel, by decide +kernel, by decide +kernel⟩, rfl, rfl, Nat.le_of_ble_eq_true rfl, Nat.le_of_ble_eq_true rfl⟩ rfl hl rfl (Nat.le_of_ble_eq_true rfl) dX10_addReader_15 ⟨Nat.le_of_ble_eq_true rfl, Nat.le_of_ble_eq_true rfl⟩) (fun r6 V5 H locs h hS => ?_)
    refine W.widen (k := 1) (n := 3) (Nat.le_of_ble_eq_true rfl) (Nat.le_of_ble_eq_true rfl) ?_
    exact g_iret hC hr hlk hS h dX10_addReader_18
def wk_X10_bookTold_25 (ks : List KY) (a1 : Int32) (a2 : Int32) (post : Int32 → VS → Prop) (B25 : Int32 → Int32 → VS → Prop) (x1 : Int32) (x2 : Int32) (x3 : Int32) (x4 : Int32) (x5 : Int32) (V : VS) : Prop := ((15, 0, 0) ∈ ks ∧ ((V 15 0 0 8 0) ≤ x5 → ((19, 0, 0) ∈ ks ∧ vp_in x1 24 ∧ (16, 0, 0) ∈ ks ∧ (26, 0, 0) ∈ ks ∧ (x3 = 0 → ((27, 0, 0) ∈ ks ∧ (30, 0, 0) ∈ ks ∧ ((V 30 0 0 0 x1.toNatClampNeg) = 0 → ((28, 0, 0) ∈ ks ∧ vp_in x2 7 ∧ post ((upd (upd (upd (upd (upd (upd (upd (fun _ => (0 : Int32)) (0 : Int32).toNatClampNeg (V 19 0 0 0 x1.toNatClampNeg)) (1 : Int32).toNatClampNeg (V 26 0 0 0 x1.toNatClampNeg)) (2 : Int32).toNatClampNeg (V 27 0 0 0 x1.toNatClampNeg)) (3 : Int32).toNatClampNeg (V 30 0 0 0 x1.toNatClampNeg)) (4 : Int32).toNatClampNeg (-1)) (5 : Int32).toNatClampNeg (V 28 0 0 0 x1.toNatClampNeg)) (6 : Int32).toNatClampNeg x4) x2.toNatClampNeg) V)) ∧ (¬ ((V 30 0 0 0 x1.toNatClampNeg) = 0) → ((29, 0, 0) ∈ ks ∧ vp_in (10 * x1) 240 ∧ (28, 0, 0) ∈ ks ∧ vp_in x2 7 ∧ post ((upd (upd (upd (upd (upd (upd (upd (fun _ => (0 : Int32)) (0 : Int32).toNatClampNeg (V 19 0 0 0 x1.toNatClampNeg)) (1 : Int32).toNatClampNeg (V 26 0 0 0 x1.toNatClampNeg)) (2 : Int32).toNatClampNeg (V 27 0 0 0 x1.toNatClampNeg)) (3 : Int32).toNatClampNeg (V 30 0 0 0 x1.toNatClampNeg)) (4 : Int32).toNatClampNeg (V 29 0 0 0 (10 * x1).toNatClampNeg)) (5 : Int32).toNatClampNeg (V 28 0 0 0 x1.toNatClampNeg)) (6 : Int32).toNatClampNeg x4) x2.toNatClampNeg) V)))) ∧ (¬ (x3 = 0) → ((30, 0, 0) ∈ ks ∧ ((V 30 0 0 0 x1.toNatClampNeg) = 0 → ((28, 0, 0) ∈ ks ∧ vp_in x2 7 ∧ post ((upd (upd (upd (upd (upd (upd (upd (fun _ => (0 : Int32)) (0 : Int32).toNatClampNeg (V 19 0 0 0 x1.toNatClampNeg)) (1 : Int32).toNatClampNeg (V 26 0 0 0 x1.toNatClampNeg)) (2 : Int32).toNatClampNeg (-1)) (3 : Int32).toNatClampNeg (V 30 0 0 0 x1.toNatClampNeg)) (4 : Int32).toNatClampNeg (-1)) (5 : Int32).toNatClampNeg (V 28 0 0 0 x1.toNatClampNeg)) (6 : Int32).toNatClampNeg x4) x2.toNatClampNeg) V)) ∧ (¬ ((V 30 0 0 0 x1.toNatClampNeg) = 0) → ((29, 0, 0) ∈ ks ∧ vp_in (10 * x1) 240 ∧ (28, 0, 0) ∈ ks ∧ vp_in x2 7 ∧ post ((upd (upd (upd (upd (upd (upd (upd (fun _ => (0 : Int32)) (0 : Int32).toNatClampNeg (V 19 0 0 0 x1.toNatClampNeg)) (1 : Int32).toNatClampNeg (V 26 0 0 0 x1.toNatClampNeg)) (2 : Int32).toNatClampNeg (-1)) (3 : Int32).toNatClampNeg (V 30 0 0 0 x1.toNatClampNeg)) (4 : Int32).toNatClampNeg (V 29 0 0 0 (10 * x1).toNatClampNeg)) (5 : Int32).toNatClampNeg (V 28 0 0 0 x1.toNatClampNeg)) (6 : Int32).toNatClampNeg x4) x2.toNatClampNeg) V)))))) ∧ (¬ ((V 15 0 0 8 0) ≤ x5) → ((16, 0, 0) ∈ ks ∧ (31, 0, 0) ∈ ks ∧ vp_in x5 10 ∧ ∀ y28 : Int32, y28 = x4 + (((V 31 0 0 0 x5.toNatClampNeg) >>> (x1 &&& 31)) &&& 1) → ∀ y29 : Int32, y29 = x5 + 1 → B25 y28 y29 V)))
def wl_X10_bookTold_25 (ks : List KY) (a1 : Int32) (a2 : Int32) (post : Int32 → VS → Prop) (x1 : Int32) (x2 : Int32) (x3 : Int32) (x4 : Int32) (x5 : Int32) (V : VS) : Prop := ∃ J : Nat → Int32 → Int32 → VS → Prop, (∃ n, J n x4 x5 V) ∧ ∀ (n : Nat) (x4 : Int32) (x5 : Int32) (V : VS), J n x4 x5 V → wk_X10_bookTold_25 ks a1 a2 post (fun x4 x5 V => ∃ n', n' < n ∧ J n' x4 x5 V) x1 x2 x3 x4 x5 V
def wb_X10_bookTold_18 (ks : List KY) (a1 : Int32) (a2 : Int32) (post : Int32 → VS → Prop) (x1 : Int32) (x2 : Int32) (s0 : Int32) (V : VS) : Prop := (wl_X10_bookTold_25 ks a1 a2 post x1 x2 s0 0 0 V)
def wp_X10_bookTold (ks : List KY) (a1 : Int32) (a2 : Int32) (V : VS) (post : Int32 → VS → Prop) : Prop := ((15, 0, 0) ∈ ks ∧ (16, 0, 0) ∈ ks ∧ (26, 0, 0) ∈ ks ∧ vp_in a1 24 ∧ ((V 26 0 0 0 a1.toNatClampNeg) = (-1) → (wb_X10_bookTold_18 ks a1 a2 post a1 a2 1 V)) ∧ (¬ ((V 26 0 0 0 a1.toNatClampNeg) = (-1)) → (wb_X10_bookTold_18 ks a1 a2 post a1 a2 0 V)))
set_option maxHeartbeats 4000000 in
set_option maxRecDepth 100000 in
theorem c_X10_bookTold (l : Launch) (G : GG) (ks : List KY) (ad : AD) (a1 : Int32) (a2 : Int32) (V : VS) (post : Int32 → VS → Prop) (h : wp_X10_bookTold ks a1 a2 V post) (sz : Nat) : Met l yX10_bookTold (ws_ yX10_bookTold cX10_bookTold 6 (some .int)) ({ frames := 0, cells := 1, slots := 7, locals := 0 }) (mPc [.ref (ad 15 0 0), .int a1, .int a2] G ks ad V sz) (mQi post G ks ad sz) 1 7 (mA ks ad sz) := by
  refine g_met (own := RX10) (by decide) rfl (Nat.le_of_ble_eq_true rfl) ?_
  intro p e s m args below meth c ls hC hsz hr hlk hin hS ha hl
  have hl : lv_has ls 6 [(0, .ref (ad 15 0 0)), (1, .int a1), (2, .int a2)] := hl
  unfold wp_X10_bookTold at h
  have kT25 : ∀ (x1 : Int32) (x2 : Int32) (x3 : Int32) (x4 : Int32) (x5 : Int32) (V : VS) (H : Heap) (locs : List Loc) (ls : Array Slot), wl_X10_bookTold_25 ks a1 a2 post x1 x2 x3 x4 x5 V → ST G ks ad V (mA ks ad sz) s.heap H locs → lv_has ls 6 [(0, .ref (ad 15 0 0)), (1, .int x1), (2, .int x2), (3, .int x3), (4, .int x4), (5, .int x5)] → W p l e ({ frames := 0, cells := 1, slots := 7, locals := 0 } : Room) s m args below meth c H locs 0 0 (MQ below (mQi post G ks ad sz) args s 1 7 (mA ks ad sz)) (F0 m 25 ls []) := by
    intro x1 x2 x3 x4 x5 V H locs ls h hS hl
    obtain ⟨J, ⟨n, hJ⟩, hb⟩ := h
    induction n using Nat.strongRecOn generalizing x4 x5 V H locs ls with
    | _ n ih =>
      have h := hb n x4 x5 V hJ
      obtain ⟨B25, eB⟩ : ∃ z : Int32 → Int32 → VS → Prop, z = (fun x4 x5 V => ∃ n', n' < n ∧ J n' x4 x5 V) := ⟨_, rfl⟩
      rw [← eB] at h
      have kB25 : ∀ (x4 : Int32) (x5 : Int32) (V : VS) (H : Heap) (locs : List Loc) (ls : Array Slot), B25 x4 x5 V → ST G ks ad V (mA ks ad sz) s.heap H locs → lv_has ls 6 [(0, .ref (ad 15 0 0)), (1, .int x1), (2, .int x2), (3, .int x3), (4, .int x4), (5, .int x5)] → W p l e ({ frames := 0, cells := 1, slots := 7, locals := 0 } : Room) s m args below meth c H locs 0 0 (MQ below (mQi post G ks ad sz) args s 1 7 (mA ks ad sz)) (F0 m 25 ls []) := by
        intro x4 x5 V H locs ls h hS hl
        rw [eB] at h
        obtain ⟨n', hn, hJ'⟩ := h
        exact ih n' hn _ _ _ _ _ _ hS hl hJ'
      clear ih hJ hb eB
      unfold wk_X10_bookTold_25 at h
      refine lv_iload hC.1 hC.2.1 dX10_bookTold_25 (lv_at hl 5 rfl) ?_
      refine lv_aload_n hC.1 hC.2.1 dX10_bookTold_27 rfl (lv_at hl 0 rfl) ?_
      obtain ⟨hk1, h⟩ := h
      refine gf_15_8 hC hS hk1 wq_1059 dX10_bookTold_28 ?_
      refine lv_icmp_ge (tgt := 59) hC.1 hC.2.1 dX10_bookTold_31 (by decide) (fun c30 => ?_) (fun c30 => ?_)
      · have h := h.1 c30
        refine lv_bipush (v := 7) hC.1 hC.2.1 dX10_bookTold_59 (by decide) ?_
        refine t_new (n := 7) hC hS wq_116 (by decide) (by decide) (by decide) ⟨Nat.le_of_ble_eq_true rfl, Nat.le_of_ble_eq_true rfl⟩ dX10_bookTold_61 (fun q2 H hT => ?_)
        have hS := hT.st
        refine W.widen (k := 1) (n := 7) (Nat.le_of_ble_eq_true rfl) (Nat.le_of_ble_eq_true rfl) ?_
        refine lv_dup hC.1 hC.2.1 dX10_bookTold_63 rfl ?_
        refine lv_iconst (v := 0) hC.1 hC.2.1 dX10_bookTold_64 (by decide) ?_
        refine lv_aload_n hC.1 hC.2.1 dX10_bookTold_65 rfl (lv_at hl 0 rfl) ?_
        refine gf_15_7 hC hS hk1 wq_1057 dX10_bookTold_66 ?_
        refine lv_iload_n hC.1 hC.2.1 dX10_bookTold_69 rfl (lv_at hl 1 rfl) ?_
        obtain ⟨hk3, h⟩ := h
        obtain ⟨hx4, h⟩ := h
        refine g_iald hC hS hk3 (by decide) hx4 dX10_bookTold_70 ?_
        refine t_iast hC hT (by unfold vp_in; decide) dX10_bookTold_71 (fun H locs hT => ?_)
        have hS := hT.st
        refine lv_dup hC.1 hC.2.1 dX10_bookTold_72 rfl ?_
        refine lv_iconst (v := 1) hC.1 hC.2.1 dX10_bookTold_73 (by decide) ?_
        refine lv_aload_n hC.1 hC.2.1 dX10_bookTold_74 rfl (lv_at hl 0 rfl) ?_
        refine gf_15_11 hC hS hk1 wq_1065 dX10_bookTold_75 ?_
        obtain ⟨hk5, h⟩ := h
        refine gn_16_8 hC hS hk5 wq_993 dX10_bookTold_78 ?_
        refine lv_iload_n hC.1 hC.2.1 dX10_bookTold_81 rfl (lv_at hl 1 rfl) ?_
        obtain ⟨hk6, h⟩ := h
        refine g_iald hC hS hk6 (by decide) hx4 dX10_bookTold_82 ?_
        refine t_iast hC hT (by unfold vp_in; decide) dX10_bookTold_83 (fun H locs hT => ?_)
        have hS := hT.st
        refine lv_dup hC.1 hC.2.1 dX10_bookTold_84 rfl ?_
        refine lv_iconst (v := 2) hC.1 hC.2.1 dX10_bookTold_85 (by decide) ?_
        refine lv_iload_n hC.1 hC.2.1 dX10_bookTold_86 rfl (lv_at hl 3 rfl) ?_
        refine lv_if_eq (tgt := 94) hC.1 hC.2.1 dX10_bookTold_87 (by decide) (fun c24 => ?_) (fun c24 => ?_)
        · have h := h.1 c24
          refine lv_aload_n hC.1 hC.2.1 dX10_bookTold_94 rfl (lv_at hl 0 rfl) ?_
          refine gf_15_11 hC hS hk1 wq_1065 dX10_bookTold_95 ?_
          refine gn_16_9 hC hS hk5 wq_995 dX10_bookTold_98 ?_
          refine lv_iload_n hC.1 hC.2.1 dX10_bookTold_101 rfl (lv_at hl 1 rfl) ?_
          obtain ⟨hk7, h⟩ := h
          refine g_iald hC hS hk7 (by decide) hx4 dX10_bookTold_102 ?_
          refine t_iast hC hT (by unfold vp_in; decide) dX10_bookTold_103 (fun H locs hT => ?_)
          have hS := hT.st
          refine lv_dup hC.1 hC.2.1 dX10_bookTold_104 rfl ?_
          refine lv_iconst (v := 3) hC.1 hC.2.1 dX10_bookTold_105 (by decide) ?_
          refine lv_aload_n hC.1 hC.2.1 dX10_bookTold_106 rfl (lv_at hl 0 rfl) ?_
          refine gf_15_11 hC hS hk1 wq_1065 dX10_bookTold_107 ?_
          refine gn_16_12 hC hS hk5 wq_1001 dX10_bookTold_110 ?_
          refine lv_iload_n hC.1 hC.2.1 dX10_bookTold_113 rfl (lv_at hl 1 rfl) ?_
          obtain ⟨hk8, h⟩ := h
          refine g_iald hC hS hk8 (by decide) hx4 dX10_bookTold_114 ?_
          refine t_iast hC hT (by unfold vp_in; decide) dX10_bookTold_115 (fun H locs hT => ?_)
          have hS := hT.st
          refine lv_dup hC.1 hC.2.1 dX10_bookTold_116 rfl ?_
          refine lv_iconst (v := 4) hC.1 hC.2.1 dX10_bookTold_117 (by decide) ?_
          refine lv_aload_n hC.1 hC.2.1 dX10_bookTold_118 rfl (lv_at hl 0 rfl) ?_
          refine gf_15_11 hC hS hk1 wq_1065 dX10_bookTold_119 ?_
          refine gn_16_12 hC hS hk5 wq_1001 dX10_bookTold_122 ?_
          refine lv_iload_n hC.1 hC.2.1 dX10_bookTold_125 rfl (lv_at hl 1 rfl) ?_
          refine g_iald hC hS hk8 (by decide) hx4 dX10_bookTold_126 ?_
          refine lv_if_ne (tgt := 134) hC.1 hC.2.1 dX10_bookTold_127 (by decide) (fun c15 => ?_) (fun c15 => ?_)
          · have h := h.2 c15
            refine lv_aload_n hC.1 hC.2.1 dX10_bookTold_134 rfl (lv_at hl 0 rfl) ?_
            refine gf_15_11 hC hS hk1 wq_1065 dX10_bookTold_135 ?_
            refine gn_16_11 hC hS hk5 wq_999 dX10_bookTold_138 ?_
            refine lv_bipush (v := 10) hC.1 hC.2.1 dX10_bookTold_141 (by decide) ?_
            refine lv_iload_n hC.1 hC.2.1 dX10_bookTold_143 rfl (lv_at hl 1 rfl) ?_
            refine lv_imul hC.1 hC.2.1 dX10_bookTold_144 ?_
            obtain ⟨hk11, h⟩ := h
            obtain ⟨hx12, h⟩ := h
            refine g_iald hC hS hk11 (by decide) hx12 dX10_bookTold_145 ?_
            refine t_iast hC hT (by unfold vp_in; decide) dX10_bookTold_146 (fun H locs hT => ?_)
            have hS := hT.st
            refine lv_dup hC.1 hC.2.1 dX10_bookTold_147 rfl ?_
            refine lv_iconst (v := 5) hC.1 hC.2.1 dX10_bookTold_148 (by decide) ?_
            refine lv_aload_n hC.1 hC.2.1 dX10_bookTold_149 rfl (lv_at hl 0 rfl) ?_
            refine gf_15_11 hC hS hk1 wq_1065 dX10_bookTold_150 ?_
            refine gn_16_10 hC hS hk5 wq_997 dX10_bookTold_153 ?_
            refine lv_iload_n hC.1 hC.2.1 dX10_bookTold_156 rfl (lv_at hl 1 rfl) ?_
            obtain ⟨hk13, h⟩ := h
            refine g_iald hC hS hk13 (by decide) hx4 dX10_bookTold_157 ?_
            refine t_iast hC hT (by unfold vp_in; decide) dX10_bookTold_158 (fun H locs hT => ?_)
            have hS := hT.st
            refine lv_dup hC.1 hC.2.1 dX10_bookTold_159 rfl ?_
            refine lv_bipush (v := 6) hC.1 hC.2.1 dX10_bookTold_160 (by decide) ?_
            refine lv_iload hC.1 hC.2.1 dX10_bookTold_162 (lv_at hl 4 rfl) ?_
            refine t_iast hC hT (by unfold vp_in; decide) dX10_bookTold_164 (fun H locs hT => ?_)
            have hS := hT.st
            refine lv_astore (lv' := [(5, .ref q2), (0, .ref (ad 15 0 0)), (1, .int x1), (2, .int x2), (3, .int x3), (4, .int x4)]) hC.1 hC.2.1 dX10_bookTold_165 hl (by decide) rfl (fun ls hl => ?_)
            refine lv_aload hC.1 hC.2.1 dX10_bookTold_167 (lv_at hl 0 rfl) ?_
            refine lv_iload_n hC.1 hC.2.1 dX10_bookTold_169 rfl (lv_at hl 3 rfl) ?_
            obtain ⟨hx14, h⟩ := h
            refine t_iald hC hT hx14 dX10_bookTold_170 ?_
            exact g_iret hC hr hlk hS h dX10_bookTold_171
          · have h := h.1 c15
            refine lv_iconst (v := (-1)) hC.1 hC.2.1 dX10_bookTold_130 (by decide) ?_
            refine lv_goto (tgt := 146) hC.1 hC.2.1 dX10_bookTold_131 (by decide) ?_
            refine t_iast hC hT (by unfold vp_in; decide) dX10_bookTold_146 (fun H locs hT => ?_)
            have hS := hT.st
            refine lv_dup hC.1 hC.2.1 dX10_bookTold_147 rfl ?_
            refine lv_iconst (v := 5) hC.1 hC.2.1 dX10_bookTold_148 (by decide) ?_
            refine lv_aload_n hC.1 hC.2.1 dX10_bookTold_149 rfl (lv_at hl 0 rfl) ?_
            refine gf_15_11 hC hS hk1 wq_1065 dX10_bookTold_150 ?_
            refine gn_16_10 hC hS hk5 wq_997 dX10_bookTold_153 ?_
            refine lv_iload_n hC.1 hC.2.1 dX10_bookTold_156 rfl (lv_at hl 1 rfl) ?_
            obtain ⟨hk9, h⟩ := h
            refine g_iald hC hS hk9 (by decide) hx4 dX10_bookTold_157 ?_
            refine t_iast hC hT (by unfold vp_in; decide) dX10_bookTold_158 (fun H locs hT => ?_)
            have hS := hT.st
            refine lv_dup hC.1 hC.2.1 dX10_bookTold_159 rfl ?_
            refine lv_bipush (v := 6) hC.1 hC.2.1 dX10_bookTold_160 (by decide) ?_
            refine lv_iload hC.1 hC.2.1 dX10_bookTold_162 (lv_at hl 4 rfl) ?_
            refine t_iast hC hT (by unfold vp_in; decide) dX10_bookTold_164 (fun H locs hT => ?_)
            have hS := hT.st
            refine lv_astore (lv' := [(5, .ref q2), (0, .ref (ad 15 0 0)), (1, .int x1), (2, .int x2), (3, .int x3), (4, .int x4)]) hC.1 hC.2.1 dX10_bookTold_165 hl (by decide) rfl (fun ls hl => ?_)
            refine lv_aload hC.1 hC.2.1 dX10_bookTold_167 (lv_at hl 0 rfl) ?_
            refine lv_iload_n hC.1 hC.2.1 dX10_bookTold_169 rfl (lv_at hl 3 rfl) ?_
            obtain ⟨hx10, h⟩ := h
            refine t_iald hC hT hx10 dX10_bookTold_170 ?_
            exact g_iret hC hr hlk hS h dX10_bookTold_171
        · have h := h.2 c24
          refine lv_iconst (v := (-1)) hC.1 hC.2.1 dX10_bookTold_90 (by decide) ?_
          refine lv_goto (tgt := 103) hC.1 hC.2.1 dX10_bookTold_91 (by decide) ?_
          refine t_iast hC hT (by unfold vp_in; decide) dX10_bookTold_103 (fun H locs hT => ?_)
          have hS := hT.st
          refine lv_dup hC.1 hC.2.1 dX10_bookTold_104 rfl ?_
          refine lv_iconst (v := 3) hC.1 hC.2.1 dX10_bookTold_105 (by decide) ?_
          refine lv_aload_n hC.1 hC.2.1 dX10_bookTold_106 rfl (lv_at hl 0 rfl) ?_
          refine gf_15_11 hC hS hk1 wq_1065 dX10_bookTold_107 ?_
          refine gn_16_12 hC hS hk5 wq_1001 dX10_bookTold_110 ?_
          refine lv_iload_n hC.1 hC.2.1 dX10_bookTold_113 rfl (lv_at hl 1 rfl) ?_
          obtain ⟨hk16, h⟩ := h
          refine g_iald hC hS hk16 (by decide) hx4 dX10_bookTold_114 ?_
          refine t_iast hC hT (by unfold vp_in; decide) dX10_bookTold_115 (fun H locs hT => ?_)
          have hS := hT.st
          refine lv_dup hC.1 hC.2.1 dX10_bookTold_116 rfl ?_
          refine lv_iconst (v := 4) hC.1 hC.2.1 dX10_bookTold_117 (by decide) ?_
          refine lv_aload_n hC.1 hC.2.1 dX10_bookTold_118 rfl (lv_at hl 0 rfl) ?_
          refine gf_15_11 hC hS hk1 wq_1065 dX10_bookTold_119 ?_
          refine gn_16_12 hC hS hk5 wq_1001 dX10_bookTold_122 ?_
          refine lv_iload_n hC.1 hC.2.1 dX10_bookTold_125 rfl (lv_at hl 1 rfl) ?_
          refine g_iald hC hS hk16 (by decide) hx4 dX10_bookTold_126 ?_
          refine lv_if_ne (tgt := 134) hC.1 hC.2.1 dX10_bookTold_127 (by decide) (fun c23 => ?_) (fun c23 => ?_)
          · have h := h.2 c23
            refine lv_aload_n hC.1 hC.2.1 dX10_bookTold_134 rfl (lv_at hl 0 rfl) ?_
            refine gf_15_11 hC hS hk1 wq_1065 dX10_bookTold_135 ?_
            refine gn_16_11 hC hS hk5 wq_999 dX10_bookTold_138 ?_
            refine lv_bipush (v := 10) hC.1 hC.2.1 dX10_bookTold_141 (by decide) ?_
            refine lv_iload_n hC.1 hC.2.1 dX10_bookTold_143 rfl (lv_at hl 1 rfl) ?_
            refine lv_imul hC.1 hC.2.1 dX10_bookTold_144 ?_
            obtain ⟨hk19, h⟩ := h
            obtain ⟨hx20, h⟩ := h
            refine g_iald hC hS hk19 (by decide) hx20 dX10_bookTold_145 ?_
            refine t_iast hC hT (by unfold vp_in; decide) dX10_bookTold_146 (fun H locs hT => ?_)
            have hS := hT.st
            refine lv_dup hC.1 hC.2.1 dX10_bookTold_147 rfl ?_
            refine lv_iconst (v := 5) hC.1 hC.2.1 dX10_bookTold_148 (by decide) ?_
            refine lv_aload_n hC.1 hC.2.1 dX10_bookTold_149 rfl (lv_at hl 0 rfl) ?_
            refine gf_15_11 hC hS hk1 wq_1065 dX10_bookTold_150 ?_
            refine gn_16_10 hC hS hk5 wq_997 dX10_bookTold_153 ?_
            refine lv_iload_n hC.1 hC.2.1 dX10_bookTold_156 rfl (lv_at hl 1 rfl) ?_
            obtain ⟨hk21, h⟩ := h
            refine g_iald hC hS hk21 (by decide) hx4 dX10_bookTold_157 ?_
            refine t_iast hC hT (by unfold vp_in; decide) dX10_bookTold_158 (fun H locs hT => ?_)
            have hS := hT.st
            refine lv_dup hC.1 hC.2.1 dX10_bookTold_159 rfl ?_
            refine lv_bipush (v := 6) hC.1 hC.2.1 dX10_bookTold_160 (by decide) ?_
            refine lv_iload hC.1 hC.2.1 dX10_bookTold_162 (lv_at hl 4 rfl) ?_
            refine t_iast hC hT (by unfold vp_in; decide) dX10_bookTold_164 (fun H locs hT => ?_)
            have hS := hT.st
            refine lv_astore (lv' := [(5, .ref q2), (0, .ref (ad 15 0 0)), (1, .int x1), (2, .int x2), (3, .int x3), (4, .int x4)]) hC.1 hC.2.1 dX10_bookTold_165 hl (by decide) rfl (fun ls hl => ?_)
            refine lv_aload hC.1 hC.2.1 dX10_bookTold_167 (lv_at hl 0 rfl) ?_
            refine lv_iload_n hC.1 hC.2.1 dX10_bookTold_169 rfl (lv_at hl 3 rfl) ?_
            obtain ⟨hx22, h⟩ := h
            refine t_iald hC hT hx22 dX10_bookTold_170 ?_
            exact g_iret hC hr hlk hS h dX10_bookTold_171
          · have h := h.1 c23
            refine lv_iconst (v := (-1)) hC.1 hC.2.1 dX10_bookTold_130 (by decide) ?_
            refine lv_goto (tgt := 146) hC.1 hC.2.1 dX10_bookTold_131 (by decide) ?_
            refine t_iast hC hT (by unfold vp_in; decide) dX10_bookTold_146 (fun H locs hT => ?_)
            have hS := hT.st
            refine lv_dup hC.1 hC.2.1 dX10_bookTold_147 rfl ?_
            refine lv_iconst (v := 5) hC.1 hC.2.1 dX10_bookTold_148 (by decide) ?_
            refine lv_aload_n hC.1 hC.2.1 dX10_bookTold_149 rfl (lv_at hl 0 rfl) ?_
            refine gf_15_11 hC hS hk1 wq_1065 dX10_bookTold_150 ?_
            refine gn_16_10 hC hS hk5 wq_997 dX10_bookTold_153 ?_
            refine lv_iload_n hC.1 hC.2.1 dX10_bookTold_156 rfl (lv_at hl 1 rfl) ?_
            obtain ⟨hk17, h⟩ := h
            refine g_iald hC hS hk17 (by decide) hx4 dX10_bookTold_157 ?_
            refine t_iast hC hT (by unfold vp_in; decide) dX10_bookTold_158 (fun H locs hT => ?_)
            have hS := hT.st
            refine lv_dup hC.1 hC.2.1 dX10_bookTold_159 rfl ?_
            refine lv_bipush (v := 6) hC.1 hC.2.1 dX10_bookTold_160 (by decide) ?_
            refine lv_iload hC.1 hC.2.1 dX10_bookTold_162 (lv_at hl 4 rfl) ?_
            refine t_iast hC hT (by unfold vp_in; decide) dX10_bookTold_164 (fun H locs hT => ?_)
            have hS := hT.st
            refine lv_astore (lv' := [(5, .ref q2), (0, .ref (ad 15 0 0)), (1, .int x1), (2, .int x2), (3, .int x3), (4, .int x4)]) hC.1 hC.2.1 dX10_bookTold_165 hl (by decide) rfl (fun ls hl => ?_)
            refine lv_aload hC.1 hC.2.1 dX10_bookTold_167 (lv_at hl 0 rfl) ?_
            refine lv_iload_n hC.1 hC.2.1 dX10_bookTold_169 rfl (lv_at hl 3 rfl) ?_
            obtain ⟨hx18, h⟩ := h
            refine t_iald hC hT hx18 dX10_bookTold_170 ?_
            exact g_iret hC hr hlk hS h dX10_bookTold_171
      · have h := h.2 c30
        refine lv_iload hC.1 hC.2.1 dX10_bookTold_34 (lv_at hl 4 rfl) ?_
        refine lv_aload_n hC.1 hC.2.1 dX10_bookTold_36 rfl (lv_at hl 0 rfl) ?_
        refine gf_15_11 hC hS hk1 wq_1065 dX10_bookTold_37 ?_
        obtain ⟨hk25, h⟩ := h
        refine gn_16_13 hC hS hk25 wq_1003 dX10_bookTold_40 ?_
        refine lv_iload hC.1 hC.2.1 dX10_bookTold_43 (lv_at hl 5 rfl) ?_
        obtain ⟨hk26, h⟩ := h
        obtain ⟨hx27, h⟩ := h
        refine g_iald hC hS hk26 (by decide) hx27 dX10_bookTold_45 ?_
        refine lv_iload_n hC.1 hC.2.1 dX10_bookTold_46 rfl (lv_at hl 1 rfl) ?_
        refine lv_ishr hC.1 hC.2.1 dX10_bookTold_47 ?_
        refine lv_iconst (v := 1) hC.1 hC.2.1 dX10_bookTold_48 (by decide) ?_
        refine lv_iand hC.1 hC.2.1 dX10_bookTold_49 ?_
        refine lv_iadd hC.1 hC.2.1 dX10_bookTold_50 ?_
        refine lv_topi (fun y28 ey28 => ?_)
        have h := h y28 ey28
        refine lv_istore (lv' := [(4, .int y28), (0, .ref (ad 15 0 0)), (1, .int x1), (2, .int x2), (3, .int x3), (5, .int x5)]) hC.1 hC.2.1 dX10_bookTold_51 hl (by decide) rfl (fun ls hl => ?_)
        obtain ⟨y29, ey29⟩ : ∃ z : Int32, z = x5 + 1 := ⟨_, rfl⟩
        have h := h y29 ey29
        refine lv_iinc (v := y29) (lv' := [(5, .int y29), (4, .int y28), (0, .ref (ad 15 0 0)), (1, .int x1), (2, .int x2), (3, .int x3)]) hC.1 hC.2.1 dX10_bookTold_53 hl (k := 5) rfl (by rw [ey29]; rfl) (by decide) rfl (fun ls hl => ?_)
        refine lv_goto (tgt := 25) hC.1 hC.2.1 dX10_bookTold_56 (by decide) ?_
        exact kB25 _ _ _ _ _ _ h hS (lv_sub hl [2, 3, 4, 5, 1, 0] rfl)
  have kT18 : ∀ (x1 : Int32) (x2 : Int32) (s0 : Int32) (V : VS) (H : Heap) (locs : List Loc) (ls : Array Slot), wb_X10_bookTold_18 ks a1 a2 post x1 x2 s0 V → ST G ks ad V (mA ks ad sz) s.heap H locs → lv_has ls 6 [(0, .ref (ad 15 0 0)), (1, .int x1), (2, .int x2)] → W p l e ({ frames := 0, cells := 1, slots := 7, locals := 0 } : Room) s m args below meth c H locs 0 0 (MQ below (mQi post G ks ad sz) args s 1 7 (mA ks ad sz)) (F0 m 18 ls [.int s0]) := by
    intro x1 x2 s0 V H locs ls h hS hl
    unfold wb_X10_bookTold_18 at h
    refine lv_istore_n (lv' := [(3, .int s0), (0, .ref (ad 15 0 0)), (1, .int x1), (2, .int x2)]) hC.1 hC.2.1 dX10_bookTold_18 rfl hl (by decide) rfl (fun ls hl => ?_)
    refine lv_iconst (v := 0) hC.1 hC.2.1 dX10_bookTold_19 (by decide) ?_
    refine lv_istore (lv' := [(4, .int 0), (3, .int s0), (0, .ref (ad 15 0 0)), (1, .int x1), (2, .int x2)]) hC.1 hC.2.1 dX10_bookTold_20 hl (by decide) rfl (fun ls hl => ?_)
    refine lv_iconst (v := 0) hC.1 hC.2.1 dX10_bookTold_22 (by decide) ?_
    refine lv_istore (lv' := [(5, .int 0), (4, .int 0), (3, .int s0), (0, .ref (ad 15 0 0)), (1, .int x1), (2, .int x2)]) hC.1 hC.2.1 dX10_bookTold_23 hl (by decide) rfl (fun ls hl => ?_)
    exact kT25 _ _ _ _ _ _ _ _ _ h hS (lv_sub hl [3, 4, 5, 2, 1, 0] rfl)
  refine lv_aload_n hC.1 hC.2.1 dX10_bookTold_0 rfl (lv_at hl 0 rfl) ?_
  obtain ⟨hk31, h⟩ := h
  refine gf_15_11 hC hS hk31 wq_1065 dX10_bookTold_1 ?_
  obtain ⟨hk32, h⟩ := h
  refine gn_16_8 hC hS hk32 wq_993 dX10_bookTold_4 ?_
  refine lv_iload_n hC.1 hC.2.1 dX10_bookTold_7 rfl (lv_at hl 1 rfl) ?_
  obtain ⟨hk33, h⟩ := h
  obtain ⟨hx34, h⟩ := h
  refine g_iald hC hS hk33 (by decide) hx34 dX10_bookTold_8 ?_
  refine lv_iconst (v := (-1)) hC.1 hC.2.1 dX10_bookTold_9 (by decide) ?_
  refine lv_icmp_ne (tgt := 17) hC.1 hC.2.1 dX10_bookTold_10 (by decide) (fun c35 => ?_) (fun c35 => ?_)
  · have h := h.2 c35
    refine lv_iconst (v := 0) hC.1 hC.2.1 dX10_bookTold_17 (by decide) ?_
    exact kT18 _ _ _ _ _ _ _ h hS (lv_sub hl [0, 1, 2] rfl)
  · have h := h.1 c35
    refine lv_iconst (v := 1) hC.1 hC.2.1 dX10_bookTold_13 (by decide) ?_
    refine lv_goto (tgt := 18) hC.1 hC.2.1 dX10_bookTold_14 (by decide) ?_
    exact kT18 _ _ _ _ _ _ _ h hS (lv_sub hl [0, 1, 2] rfl)
def wp_X10_book (ks : List KY) (a1 : Int32) (a2 : Int32) (V : VS) (post : Int32 → VS → Prop) : Prop := ((15, 0, 0) ∈ ks ∧ ∀ V2 : VS, V2 = vup V 15 0 0 0 0 0 → wp_X10_isBook ks a1 V2 (fun r4 V3 => ((r4 = 0 → (wp_X10_no ks 1 V3 (fun r6 V5 => (post r6 V5)))) ∧ (¬ (r4 = 0) → (wp_X10_isIn ks a2 0 6 V3 (fun r8 V7 => ((r8 = 0 → (wp_X10_no ks 1 V7 (fun r10 V9 => (post r10 V9)))) ∧ (¬ (r8 = 0) → (wp_X10_bookTold ks a1 a2 V7 (fun r12 V11 => (post r12 V11)))))))))))
set_option maxHeartbeats 4000000 in
set_option maxRecDepth 100000 in
theorem c_X10_book (l : Launch) (G : GG) (ks : List KY) (ad : AD) (a1 : Int32) (a2 : Int32) (V : VS) (post : Int32 → VS → Prop) (h : wp_X10_book ks a1 a2 V post) (sz : Nat) : Met l yX10_book (ws_ yX10_book cX10_book 3 (some .int)) ({ frames := 2, cells := 1, slots := 7, locals := 43 }) (mPc [.ref (ad 15 0 0), .int a1, .int a2] G ks ad V sz) (mQi post G ks ad sz) 1 7 (mA ks ad sz) := by
  refine g_met (own := RX10) (by decide) rfl (Nat.le_of_ble_eq_true rfl) ?_
  intro p e s m args below meth c ls hC hsz hr hlk hin hS ha hl
  have hl : lv_has ls 3 [(0, .ref (ad 15 0 0)), (1, .int a1), (2, .int a2)] := hl
  unfold wp_X10_book at h
  refine lv_aload_n hC.1 hC.2.1 dX10_book_0 rfl (lv_at hl 0 rfl) ?_
  refine lv_iconst (v := 0) hC.1 hC.2.1 dX10_book_1 (by decide) ?_
  obtain ⟨hk1, h⟩ := h
  refine pf_15_0 hC hS hk1 wq_1044 dX10_book_2 (fun H locs hS => ?_)
  obtain ⟨V2, eV2⟩ : ∃ z : VS, z = vup V 15 0 0 0 0 0 := ⟨_, rfl⟩
  rw [← eV2] at hS
  have h := h V2 eV2
  refine lv_aload_n hC.1 hC.2.1 dX10_book_5 rfl (lv_at hl 0 rfl) ?_
  refine lv_iload_n hC.1 hC.2.1 dX10_book_6 rfl (lv_at hl 1 rfl) ?_
  refine g_calli0 hS (g_runV (n := 1) (rest := []) (As := [.int a1]) (C := RX10) (T := TX10) (N := 13) hC hS hk1 rfl rfl (c_X10_isBook l G ks ad a1 V2 _ h _) (gI wq_1178 wq_1180 wq_29 wq_46 wq_1181) rfl ⟨⟨by decide +kernel, by decide +kernel, by decide +kernel⟩, rfl, rfl, Nat.le_of_ble_eq_true rfl, Nat.le_of_ble_eq_true rfl⟩ rfl hl rfl (Nat.le_of_ble_eq_true rfl) dX10_book_7 ⟨Nat.le_of_ble_eq_true rfl, Nat.le_of_ble_eq_true rfl⟩) (fun r4 V3 H locs h hS => ?_)
  refine lv_if_eq (tgt := 32) hC.1 hC.2.1 dX10_book_10 (by decide) (fun c14 => ?_) (fun c14 => ?_)
  · have h := h.1 c14
    refine lv_aload_n hC.1 hC.2.1 dX10_book_32 rfl (lv_at hl 0 rfl) ?_
    refine lv_iconst (v := 1) hC.1 hC.2.1 dX10_book_33 (by decide) ?_
    refine g_calli0 hS (g_runV (n := 1) (rest := []) (As := [.int 1]) (C := RX10) (T := TX10) (N := 13) hC hS hk1 rfl rfl (c_X10_no l G ks ad 1 V3 _ h _) (gI wq_1102 wq_1104 wq_23 wq_46 wq_1105) rfl ⟨⟨by decide +kernel, by decide +kernel, by decide +kernel⟩, rfl, rfl, Nat.le_of_ble_eq_true rfl, Nat.le_of_ble_eq_true rfl⟩ rfl hl rfl (Nat.le_of_ble_eq_true rfl) dX10_book_34 ⟨Nat.le_of_ble_eq_true rfl, Nat.le_of_ble_eq_true rfl⟩) (fun r6 V5 H locs h hS => ?_)
    refine W.widen (k := 1) (n := 7) (Nat.le_of_ble_eq_true rfl) (Nat.le_of_ble_eq_true rfl) ?_
    exact g_iret hC hr hlk hS h dX10_book_37
  · have h := h.2 c14
    refine lv_iload_n hC.1 hC.2.1 dX10_book_13 rfl (lv_at hl 2 rfl) ?_
    refine lv_iconst (v := 0) hC.1 hC.2.1 dX10_book_14 (by decide) ?_
    refine lv_bipush (v := 6) hC.1 hC.2.1 dX10_book_15 (by decide) ?_
    refine g_calli0 hS (g_runS (n := 3) (rest := []) (As := [.int a2, .int 0, .int 6]) hC hS (c_X10_isIn l G ks ad a2 0 6 V3 _ h _) (gIS wq_1114 wq_1115 wq_46 wq_1116) ⟨⟨by decide +kernel, by decide +kernel, by decide +kernel⟩, rfl, rfl, Nat.le_of_ble_eq_true rfl, Nat.le_of_ble_eq_true rfl⟩ rfl hl rfl (Nat.le_of_ble_eq_true rfl) dX10_book_17 ⟨Nat.le_of_ble_eq_true rfl, Nat.le_of_ble_eq_true rfl⟩) (fun r8 V7 H locs h hS => ?_)
    refine lv_if_eq (tgt := 32) hC.1 hC.2.1 dX10_book_20 (by decide) (fun c13 => ?_) (fun c13 => ?_)
    · have h := h.1 c13
      refine lv_aload_n hC.1 hC.2.1 dX10_book_32 rfl (lv_at hl 0 rfl) ?_
      refine lv_iconst (v := 1) hC.1 hC.2.1 dX10_book_33 (by decide) ?_
      refine g_calli0 hS (g_runV (n := 1) (rest := []) (As := [.int 1]) (C := RX10) (T := TX10) (N := 13) hC hS hk1 rfl rfl (c_X10_no l G ks ad 1 V7 _ h _) (gI wq_1102 wq_1104 wq_23 wq_46 wq_1105) rfl ⟨⟨by decide +kernel, by decide +kernel, by decide +kernel⟩, rfl, rfl, Nat.le_of_ble_eq_true rfl, Nat.le_of_ble_eq_true rfl⟩ rfl hl rfl (Nat.le_of_ble_eq_true rfl) dX10_book_34 ⟨Nat.le_of_ble_eq_true rfl, Nat.le_of_ble_eq_true rfl⟩) (fun r10 V9 H locs h hS => ?_)
      refine W.widen (k := 1) (n := 7) (Nat.le_of_ble_eq_true rfl) (Nat.le_of_ble_eq_true rfl) ?_
      exact g_iret hC hr hlk hS h dX10_book_37
    · have h := h.2 c13
      refine lv_aload_n hC.1 hC.2.1 dX10_book_23 rfl (lv_at hl 0 rfl) ?_
      refine lv_iload_n hC.1 hC.2.1 dX10_book_24 rfl (lv_at hl 1 rfl) ?_
      refine lv_iload_n hC.1 hC.2.1 dX10_book_25 rfl (lv_at hl 2 rfl) ?_
      refine g_calli hS (g_runV (n := 2) (rest := []) (As := [.int a1, .int a2]) (C := RX10) (T := TX10) (N := 13) hC hS hk1 rfl rfl (c_X10_bookTold l G ks ad a1 a2 V7 _ h _) (gI wq_1198 wq_1200 wq_30 wq_46 wq_1201) rfl ⟨⟨by decide +kernel, by decide +kernel, by decide +kernel⟩, rfl, rfl, Nat.le_of_ble_eq_true rfl, Nat.le_of_ble_eq_true rfl⟩ rfl hl rfl (Nat.le_of_ble_eq_true rfl) dX10_book_26 ⟨Nat.le_of_ble_eq_true rfl, Nat.le_of_ble_eq_true rfl⟩) (fun r12 V11 H locs h hS => ?_)
      refine W.widen (k := 1) (n := 7) (Nat.le_of_ble_eq_true rfl) (Nat.le_of_ble_eq_true rfl) ?_
      refine lv_goto (tgt := 37) hC.1 hC.2.1 dX10_book_29 (by decide) ?_
      exact g_iret hC hr hlk hS h dX10_book_37
def wk_X10_counted_4 (ks : List KY) (a1 : Int32) (post : Int32 → VS → Prop) (B4 : Int32 → Int32 → VS → Prop) (x1 : Int32) (x2 : Int32) (x3 : Int32) (V : VS) : Prop := ((15, 0, 0) ∈ ks ∧ ((V 15 0 0 2 0) ≤ x3 → ((16, 0, 0) ∈ ks ∧ wp_X9_many ks 0 (-1) V (fun r5 V4 => (wp_X9_owed ks 0 V4 (fun r7 V6 => (vp_in x1 10 ∧ post ((upd (upd (upd (upd (upd (upd (upd (upd (upd (upd (fun _ => (0 : Int32)) (0 : Int32).toNatClampNeg (V 16 0 0 0 0)) (1 : Int32).toNatClampNeg (V 15 0 0 1 0)) (2 : Int32).toNatClampNeg (V 15 0 0 2 0)) (3 : Int32).toNatClampNeg (V 15 0 0 6 0)) (4 : Int32).toNatClampNeg (V 15 0 0 8 0)) (5 : Int32).toNatClampNeg r5) (6 : Int32).toNatClampNeg (V4 16 0 0 2 0)) (7 : Int32).toNatClampNeg r7) (8 : Int32).toNatClampNeg x2) (9 : Int32).toNatClampNeg (V6 16 0 0 1 0)) x1.toNatClampNeg) V6)))))) ∧ (¬ ((V 15 0 0 2 0) ≤ x3) → ((16, 0, 0) ∈ ks ∧ wp_X9_minutesOf ks 0 x3 V (fun r11 V9 => ((r11 = (-1) → (∀ y12 : Int32, y12 = x2 + 1 → ∀ y13 : Int32, y13 = x3 + 1 → B4 y12 y13 V9)) ∧ (¬ (r11 = (-1)) → (∀ y14 : Int32, y14 = x2 + 0 → ∀ y15 : Int32, y15 = x3 + 1 → B4 y14 y15 V9)))))))
def wl_X10_counted_4 (ks : List KY) (a1 : Int32) (post : Int32 → VS → Prop) (x1 : Int32) (x2 : Int32) (x3 : Int32) (V : VS) : Prop := ∃ J : Nat → Int32 → Int32 → VS → Prop, (∃ n, J n x2 x3 V) ∧ ∀ (n : Nat) (x2 : Int32) (x3 : Int32) (V : VS), J n x2 x3 V → wk_X10_counted_4 ks a1 post (fun x2 x3 V => ∃ n', n' < n ∧ J n' x2 x3 V) x1 x2 x3 V
def wp_X10_counted (ks : List KY) (a1 : Int32) (V : VS) (post : Int32 → VS → Prop) : Prop := (wl_X10_counted_4 ks a1 post a1 0 0 V)
set_option maxHeartbeats 4000000 in
set_option maxRecDepth 100000 in
theorem c_X10_counted (l : Launch) (G : GG) (ks : List KY) (ad : AD) (a1 : Int32) (V : VS) (post : Int32 → VS → Prop) (h : wp_X10_counted ks a1 V post) (sz : Nat) : Met l yX10_counted (ws_ yX10_counted cX10_counted 4 (some .int)) ({ frames := 1, cells := 1, slots := 10, locals := 23 }) (mPc [.ref (ad 15 0 0), .int a1] G ks ad V sz) (mQi post G ks ad sz) 1 10 (mA ks ad sz) := by
  refine g_met (own := RX10) (by decide) rfl (Nat.le_of_ble_eq_true rfl) ?_
  intro p e s m args below meth c ls hC hsz hr hlk hin hS ha hl
  have hl : lv_has ls 4 [(0, .ref (ad 15 0 0)), (1, .int a1)] := hl
  unfold wp_X10_counted at h
  have kT4 : ∀ (x1 : Int32) (x2 : Int32) (x3 : Int32) (V : VS) (H : Heap) (locs : List Loc) (ls : Array Slot), wl_X10_counted_4 ks a1 post x1 x2 x3 V → ST G ks ad V (mA ks ad sz) s.heap H locs → lv_has ls 4 [(0, .ref (ad 15 0 0)), (1, .int x1), (2, .int x2), (3, .int x3)] → W p l e ({ frames := 1, cells := 1, slots := 10, locals := 23 } : Room) s m args below meth c H locs 0 0 (MQ below (mQi post G ks ad sz) args s 1 10 (mA ks ad sz)) (F0 m 4 ls []) := by
    intro x1 x2 x3 V H locs ls h hS hl
    obtain ⟨J, ⟨n, hJ⟩, hb⟩ := h
    induction n using Nat.strongRecOn generalizing x2 x3 V H locs ls with
    | _ n ih =>
      have h := hb n x2 x3 V hJ
      obtain ⟨B4, eB⟩ : ∃ z : Int32 → Int32 → VS → Prop, z = (fun x2 x3 V => ∃ n', n' < n ∧ J n' x2 x3 V) := ⟨_, rfl⟩
      rw [← eB] at h
      have kB4 : ∀ (x2 : Int32) (x3 : Int32) (V : VS) (H : Heap) (locs : List Loc) (ls : Array Slot), B4 x2 x3 V → ST G ks ad V (mA ks ad sz) s.heap H locs → lv_has ls 4 [(0, .ref (ad 15 0 0)), (1, .int x1), (2, .int x2), (3, .int x3)] → W p l e ({ frames := 1, cells := 1, slots := 10, locals := 23 } : Room) s m args below meth c H locs 0 0 (MQ below (mQi post G ks ad sz) args s 1 10 (mA ks ad sz)) (F0 m 4 ls []) := by
        intro x2 x3 V H locs ls h hS hl
        rw [eB] at h
        obtain ⟨n', hn, hJ'⟩ := h
        exact ih n' hn _ _ _ _ _ _ hS hl hJ'
      clear ih hJ hb eB
      unfold wk_X10_counted_4 at h
      refine lv_iload_n hC.1 hC.2.1 dX10_counted_4 rfl (lv_at hl 3 rfl) ?_
      refine lv_aload_n hC.1 hC.2.1 dX10_counted_5 rfl (lv_at hl 0 rfl) ?_
      obtain ⟨hk1, h⟩ := h
      refine gf_15_2 hC hS hk1 wq_1048 dX10_counted_6 ?_
      refine lv_icmp_ge (tgt := 38) hC.1 hC.2.1 dX10_counted_9 (by decide) (fun c17 => ?_) (fun c17 => ?_)
      · have h := h.1 c17
        refine lv_bipush (v := 10) hC.1 hC.2.1 dX10_counted_38 (by decide) ?_
        refine t_new (n := 10) hC hS wq_116 (by decide) (by decide) (by decide) ⟨Nat.le_of_ble_eq_true rfl, Nat.le_of_ble_eq_true rfl⟩ dX10_counted_40 (fun q2 H hT => ?_)
        have hS := hT.st
        refine W.widen (k := 1) (n := 10) (Nat.le_of_ble_eq_true rfl) (Nat.le_of_ble_eq_true rfl) ?_
        refine lv_dup hC.1 hC.2.1 dX10_counted_42 rfl ?_
        refine lv_iconst (v := 0) hC.1 hC.2.1 dX10_counted_43 (by decide) ?_
        refine lv_aload_n hC.1 hC.2.1 dX10_counted_44 rfl (lv_at hl 0 rfl) ?_
        refine gf_15_11 hC hS hk1 wq_1065 dX10_counted_45 ?_
        obtain ⟨hk3, h⟩ := h
        refine gn_16_0 hC hS hk3 wq_977 dX10_counted_48 ?_
        refine t_iast hC hT (by unfold vp_in; decide) dX10_counted_51 (fun H locs hT => ?_)
        have hS := hT.st
        refine lv_dup hC.1 hC.2.1 dX10_counted_52 rfl ?_
        refine lv_iconst (v := 1) hC.1 hC.2.1 dX10_counted_53 (by decide) ?_
        refine lv_aload_n hC.1 hC.2.1 dX10_counted_54 rfl (lv_at hl 0 rfl) ?_
        refine gf_15_1 hC hS hk1 wq_1045 dX10_counted_55 ?_
        refine t_iast hC hT (by unfold vp_in; decide) dX10_counted_58 (fun H locs hT => ?_)
        have hS := hT.st
        refine lv_dup hC.1 hC.2.1 dX10_counted_59 rfl ?_
        refine lv_iconst (v := 2) hC.1 hC.2.1 dX10_counted_60 (by decide) ?_
        refine lv_aload_n hC.1 hC.2.1 dX10_counted_61 rfl (lv_at hl 0 rfl) ?_
        refine gf_15_2 hC hS hk1 wq_1048 dX10_counted_62 ?_
        refine t_iast hC hT (by unfold vp_in; decide) dX10_counted_65 (fun H locs hT => ?_)
        have hS := hT.st
        refine lv_dup hC.1 hC.2.1 dX10_counted_66 rfl ?_
        refine lv_iconst (v := 3) hC.1 hC.2.1 dX10_counted_67 (by decide) ?_
        refine lv_aload_n hC.1 hC.2.1 dX10_counted_68 rfl (lv_at hl 0 rfl) ?_
        refine gf_15_6 hC hS hk1 wq_1055 dX10_counted_69 ?_
        refine t_iast hC hT (by unfold vp_in; decide) dX10_counted_72 (fun H locs hT => ?_)
        have hS := hT.st
        refine lv_dup hC.1 hC.2.1 dX10_counted_73 rfl ?_
        refine lv_iconst (v := 4) hC.1 hC.2.1 dX10_counted_74 (by decide) ?_
        refine lv_aload_n hC.1 hC.2.1 dX10_counted_75 rfl (lv_at hl 0 rfl) ?_
        refine gf_15_8 hC hS hk1 wq_1059 dX10_counted_76 ?_
        refine t_iast hC hT (by unfold vp_in; decide) dX10_counted_79 (fun H locs hT => ?_)
        have hS := hT.st
        refine lv_dup hC.1 hC.2.1 dX10_counted_80 rfl ?_
        refine lv_iconst (v := 5) hC.1 hC.2.1 dX10_counted_81 (by decide) ?_
        refine lv_aload_n hC.1 hC.2.1 dX10_counted_82 rfl (lv_at hl 0 rfl) ?_
        refine gf_15_11 hC hS hk1 wq_1065 dX10_counted_83 ?_
        refine lv_iconst (v := (-1)) hC.1 hC.2.1 dX10_counted_86 (by decide) ?_
        refine t_calli hT (g_runV (n := 1) (rest := [.int 5, .ref q2, .ref q2]) (As := [.int (-1)]) (C := RX9) (T := TX9) (N := 17) hC hS hk3 rfl rfl (c_X9_many l G ks ad 0 (-1) V _ h _) (gI wq_1210 wq_1211 wq_1212 wq_47 wq_1213) rfl ⟨⟨by decide +kernel, by decide +kernel, by decide +kernel⟩, rfl, rfl, Nat.le_of_ble_eq_true rfl, Nat.le_of_ble_eq_true rfl⟩ rfl hl rfl (Nat.le_of_ble_eq_true rfl) dX10_counted_87 ⟨Nat.le_of_ble_eq_true rfl, Nat.le_of_ble_eq_true rfl⟩) (fun r5 V4 H locs h hT => ?_)
        have hS := hT.st
        refine t_iast hC hT (by unfold vp_in; decide) dX10_counted_90 (fun H locs hT => ?_)
        have hS := hT.st
        refine lv_dup hC.1 hC.2.1 dX10_counted_91 rfl ?_
        refine lv_bipush (v := 6) hC.1 hC.2.1 dX10_counted_92 (by decide) ?_
        refine lv_aload_n hC.1 hC.2.1 dX10_counted_94 rfl (lv_at hl 0 rfl) ?_
        refine gf_15_11 hC hS hk1 wq_1065 dX10_counted_95 ?_
        refine gn_16_2 hC hS hk3 wq_981 dX10_counted_98 ?_
        refine t_iast hC hT (by unfold vp_in; decide) dX10_counted_101 (fun H locs hT => ?_)
        have hS := hT.st
        refine lv_dup hC.1 hC.2.1 dX10_counted_102 rfl ?_
        refine lv_bipush (v := 7) hC.1 hC.2.1 dX10_counted_103 (by decide) ?_
        refine lv_aload_n hC.1 hC.2.1 dX10_counted_105 rfl (lv_at hl 0 rfl) ?_
        refine gf_15_11 hC hS hk1 wq_1065 dX10_counted_106 ?_
        refine t_calli hT (g_runV (n := 0) (rest := [.int 7, .ref q2, .ref q2]) (As := []) (C := RX9) (T := TX9) (N := 17) hC hS hk3 rfl rfl (c_X9_owed l G ks ad 0 V4 _ h _) (gI wq_1259 wq_1260 wq_1261 wq_47 wq_1262) rfl ⟨⟨by decide +kernel, by decide +kernel, by decide +kernel⟩, rfl, rfl, Nat.le_of_ble_eq_true rfl, Nat.le_of_ble_eq_true rfl⟩ rfl hl rfl (Nat.le_of_ble_eq_true rfl) dX10_counted_109 ⟨Nat.le_of_ble_eq_true rfl, Nat.le_of_ble_eq_true rfl⟩) (fun r7 V6 H locs h hT => ?_)
        have hS := hT.st
        refine t_iast hC hT (by unfold vp_in; decide) dX10_counted_112 (fun H locs hT => ?_)
        have hS := hT.st
        refine lv_dup hC.1 hC.2.1 dX10_counted_113 rfl ?_
        refine lv_bipush (v := 8) hC.1 hC.2.1 dX10_counted_114 (by decide) ?_
        refine lv_iload_n hC.1 hC.2.1 dX10_counted_116 rfl (lv_at hl 2 rfl) ?_
        refine t_iast hC hT (by unfold vp_in; decide) dX10_counted_117 (fun H locs hT => ?_)
        have hS := hT.st
        refine lv_dup hC.1 hC.2.1 dX10_counted_118 rfl ?_
        refine lv_bipush (v := 9) hC.1 hC.2.1 dX10_counted_119 (by decide) ?_
        refine lv_aload_n hC.1 hC.2.1 dX10_counted_121 rfl (lv_at hl 0 rfl) ?_
        refine gf_15_11 hC hS hk1 wq_1065 dX10_counted_122 ?_
        refine gn_16_1 hC hS hk3 wq_979 dX10_counted_125 ?_
        refine t_iast hC hT (by unfold vp_in; decide) dX10_counted_128 (fun H locs hT => ?_)
        have hS := hT.st
        refine lv_astore_n (lv' := [(3, .ref q2), (0, .ref (ad 15 0 0)), (1, .int x1), (2, .int x2)]) hC.1 hC.2.1 dX10_counted_129 rfl hl (by decide) rfl (fun ls hl => ?_)
        refine lv_aload_n hC.1 hC.2.1 dX10_counted_130 rfl (lv_at hl 0 rfl) ?_
        refine lv_iload_n hC.1 hC.2.1 dX10_counted_131 rfl (lv_at hl 2 rfl) ?_
        obtain ⟨hx8, h⟩ := h
        refine t_iald hC hT hx8 dX10_counted_132 ?_
        exact g_iret hC hr hlk hS h dX10_counted_133
      · have h := h.2 c17
        refine lv_iload_n hC.1 hC.2.1 dX10_counted_12 rfl (lv_at hl 2 rfl) ?_
        refine lv_aload_n hC.1 hC.2.1 dX10_counted_13 rfl (lv_at hl 0 rfl) ?_
        refine gf_15_11 hC hS hk1 wq_1065 dX10_counted_14 ?_
        refine lv_iload_n hC.1 hC.2.1 dX10_counted_17 rfl (lv_at hl 3 rfl) ?_
        obtain ⟨hk10, h⟩ := h
        refine g_calli0 hS (g_runV (n := 1) (rest := [.int x2]) (As := [.int x3]) (C := RX9) (T := TX9) (N := 17) hC hS hk10 rfl rfl (c_X9_minutesOf l G ks ad 0 x3 V _ h _) (gI wq_1143 wq_1144 wq_1145 wq_47 wq_1146) rfl ⟨⟨by decide +kernel, by decide +kernel, by decide +kernel⟩, rfl, rfl, Nat.le_of_ble_eq_true rfl, Nat.le_of_ble_eq_true rfl⟩ rfl hl rfl (Nat.le_of_ble_eq_true rfl) dX10_counted_18 ⟨Nat.le_of_ble_eq_true rfl, Nat.le_of_ble_eq_true rfl⟩) (fun r11 V9 H locs h hS => ?_)
        refine lv_iconst (v := (-1)) hC.1 hC.2.1 dX10_counted_21 (by decide) ?_
        refine lv_icmp_ne (tgt := 29) hC.1 hC.2.1 dX10_counted_22 (by decide) (fun c16 => ?_) (fun c16 => ?_)
        · have h := h.2 c16
          refine lv_iconst (v := 0) hC.1 hC.2.1 dX10_counted_29 (by decide) ?_
          refine lv_iadd hC.1 hC.2.1 dX10_counted_30 ?_
          refine lv_topi (fun y14 ey14 => ?_)
          have h := h y14 ey14
          refine lv_istore_n (lv' := [(2, .int y14), (0, .ref (ad 15 0 0)), (1, .int x1), (3, .int x3)]) hC.1 hC.2.1 dX10_counted_31 rfl hl (by decide) rfl (fun ls hl => ?_)
          obtain ⟨y15, ey15⟩ : ∃ z : Int32, z = x3 + 1 := ⟨_, rfl⟩
          have h := h y15 ey15
          refine lv_iinc (v := y15) (lv' := [(3, .int y15), (2, .int y14), (0, .ref (ad 15 0 0)), (1, .int x1)]) hC.1 hC.2.1 dX10_counted_32 hl (k := 3) rfl (by rw [ey15]; rfl) (by decide) rfl (fun ls hl => ?_)
          refine lv_goto (tgt := 4) hC.1 hC.2.1 dX10_counted_35 (by decide) ?_
          exact kB4 _ _ _ _ _ _ h hS (lv_sub hl [2, 3, 1, 0] rfl)
        · have h := h.1 c16
          refine lv_iconst (v := 1) hC.1 hC.2.1 dX10_counted_25 (by decide) ?_
          refine lv_goto (tgt := 30) hC.1 hC.2.1 dX10_counted_26 (by decide) ?_
          refine lv_iadd hC.1 hC.2.1 dX10_counted_30 ?_
          refine lv_topi (fun y12 ey12 => ?_)
          have h := h y12 ey12
          refine lv_istore_n (lv' := [(2, .int y12), (0, .ref (ad 15 0 0)), (1, .int x1), (3, .int x3)]) hC.1 hC.2.1 dX10_counted_31 rfl hl (by decide) rfl (fun ls hl => ?_)
          obtain ⟨y13, ey13⟩ : ∃ z : Int32, z = x3 + 1 := ⟨_, rfl⟩
          have h := h y13 ey13
          refine lv_iinc (v := y13) (lv' := [(3, .int y13), (2, .int y12), (0, .ref (ad 15 0 0)), (1, .int x1)]) hC.1 hC.2.1 dX10_counted_32 hl (k := 3) rfl (by rw [ey13]; rfl) (by decide) rfl (fun ls hl => ?_)
          refine lv_goto (tgt := 4) hC.1 hC.2.1 dX10_counted_35 (by decide) ?_
          exact kB4 _ _ _ _ _ _ h hS (lv_sub hl [2, 3, 1, 0] rfl)
  refine lv_iconst (v := 0) hC.1 hC.2.1 dX10_counted_0 (by decide) ?_
  refine lv_istore_n (lv' := [(2, .int 0), (0, .ref (ad 15 0 0)), (1, .int a1)]) hC.1 hC.2.1 dX10_counted_1 rfl hl (by decide) rfl (fun ls hl => ?_)
  refine lv_iconst (v := 0) hC.1 hC.2.1 dX10_counted_2 (by decide) ?_
  refine lv_istore_n (lv' := [(3, .int 0), (2, .int 0), (0, .ref (ad 15 0 0)), (1, .int a1)]) hC.1 hC.2.1 dX10_counted_3 rfl hl (by decide) rfl (fun ls hl => ?_)
  exact kT4 _ _ _ _ _ _ _ h hS (lv_sub hl [2, 3, 1, 0] rfl)
def wp_X10_count (ks : List KY) (a1 : Int32) (V : VS) (post : Int32 → VS → Prop) : Prop := ((15, 0, 0) ∈ ks ∧ ∀ V2 : VS, V2 = vup V 15 0 0 0 0 0 → wp_X10_isIn ks a1 0 9 V2 (fun r4 V3 => ((r4 = 0 → (wp_X10_no ks 1 V3 (fun r6 V5 => (post r6 V5)))) ∧ (¬ (r4 = 0) → (wp_X10_counted ks a1 V3 (fun r8 V7 => (post r8 V7)))))))
set_option maxHeartbeats 4000000 in
set_option maxRecDepth 100000 in
theorem c_X10_count (l : Launch) (G : GG) (ks : List KY) (ad : AD) (a1 : Int32) (V : VS) (post : Int32 → VS → Prop) (h : wp_X10_count ks a1 V post) (sz : Nat) : Met l yX10_count (ws_ yX10_count cX10_count 2 (some .int)) ({ frames := 2, cells := 1, slots := 10, locals := 46 }) (mPc [.ref (ad 15 0 0), .int a1] G ks ad V sz) (mQi post G ks ad sz) 1 10 (mA ks ad sz) := by
  refine g_met (own := RX10) (by decide) rfl (Nat.le_of_ble_eq_true rfl) ?_
  intro p e s m args below meth c ls hC hsz hr hlk hin hS ha hl
  have hl : lv_has ls 2 [(0, .ref (ad 15 0 0)), (1, .int a1)] := hl
  unfold wp_X10_count at h
  refine lv_aload_n hC.1 hC.2.1 dX10_count_0 rfl (lv_at hl 0 rfl) ?_
  refine lv_iconst (v := 0) hC.1 hC.2.1 dX10_count_1 (by decide) ?_
  obtain ⟨hk1, h⟩ := h
  refine pf_15_0 hC hS hk1 wq_1044 dX10_count_2 (fun H locs hS => ?_)
  obtain ⟨V2, eV2⟩ : ∃ z : VS, z = vup V 15 0 0 0 0 0 := ⟨_, rfl⟩
  rw [← eV2] at hS
  have h := h V2 eV2
  refine lv_iload_n hC.1 hC.2.1 dX10_count_5 rfl (lv_at hl 1 rfl) ?_
  refine lv_iconst (v := 0) hC.1 hC.2.1 dX10_count_6 (by decide) ?_
  refine lv_bipush (v := 9) hC.1 hC.2.1 dX10_count_7 (by decide) ?_
  refine g_calli0 hS (g_runS (n := 3) (rest := []) (As := [.int a1, .int 0, .int 9]) hC hS (c_X10_isIn l G ks ad a1 0 9 V2 _ h _) (gIS wq_1114 wq_1115 wq_46 wq_1116) ⟨⟨by decide +kernel, by decide +kernel, by decide +kernel⟩, rfl, rfl, Nat.le_of_ble_eq_true rfl, Nat.le_of_ble_eq_true rfl⟩ rfl hl rfl (Nat.le_of_ble_eq_true rfl) dX10_count_9 ⟨Nat.le_of_ble_eq_true rfl, Nat.le_of_ble_eq_true rfl⟩) (fun r4 V3 H locs h hS => ?_)
  refine lv_if_eq (tgt := 23) hC.1 hC.2.1 dX10_count_12 (by decide) (fun c9 => ?_) (fun c9 => ?_)
  · have h := h.1 c9
    refine lv_aload_n hC.1 hC.2.1 dX10_count_23 rfl (lv_at hl 0 rfl) ?_
    refine lv_iconst (v := 1) hC.1 hC.2.1 dX10_count_24 (by decide) ?_
    refine g_calli0 hS (g_runV (n := 1) (rest := []) (As := [.int 1]) (C := RX10) (T := TX10) (N := 13) hC hS hk1 rfl rfl (c_X10_no l G ks ad 1 V3 _ h _) (gI wq_1102 wq_1104 wq_23 wq_46 wq_1105) rfl ⟨⟨by decide +kernel, by decide +kernel, by decide +kernel⟩, rfl, rfl, Nat.le_of_ble_eq_true rfl, Nat.le_of_ble_eq_true rfl⟩ rfl hl rfl (Nat.le_of_ble_eq_true rfl) dX10_count_25 ⟨Nat.le_of_ble_eq_true rfl, Nat.le_of_ble_eq_true rfl⟩) (fun r6 V5 H locs h hS => ?_)
    refine W.widen (k := 1) (n := 10) (Nat.le_of_ble_eq_true rfl) (Nat.le_of_ble_eq_true rfl) ?_
    exact g_iret hC hr hlk hS h dX10_count_28
  · have h := h.2 c9
    refine lv_aload_n hC.1 hC.2.1 dX10_count_15 rfl (lv_at hl 0 rfl) ?_
    refine lv_iload_n hC.1 hC.2.1 dX10_count_16 rfl (lv_at hl 1 rfl) ?_
    refine g_calli hS (g_runV (n := 1) (rest := []) (As := [.int a1]) (C := RX10) (T := TX10) (N := 13) hC hS hk1 rfl rfl (c_X10_counted l G ks ad a1 V3 _ h _) (gI wq_1255 wq_1257 wq_36 wq_46 wq_1258) rfl ⟨⟨by decide +kernel, by decide +kernel, by decide +kernel⟩, rfl, rfl, Nat.le_of_ble_eq_true rfl, Nat.le_of_ble_eq_true rfl⟩ rfl hl rfl (Nat.le_of_ble_eq_true rfl) dX10_count_17 ⟨Nat.le_of_ble_eq_true rfl, Nat.le_of_ble_eq_true rfl⟩) (fun r8 V7 H locs h hS => ?_)
    refine W.widen (k := 1) (n := 10) (Nat.le_of_ble_eq_true rfl) (Nat.le_of_ble_eq_true rfl) ?_
    refine lv_goto (tgt := 28) hC.1 hC.2.1 dX10_count_20 (by decide) ?_
    exact g_iret hC hr hlk hS h dX10_count_28
