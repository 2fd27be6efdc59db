def wb_X6_time_27 (ks : List KY) (w : Nat) (a1 : Int32) (a2 : Int32) (post : Int32 → VS → Prop) (s0 : Int32) (V : VS) : Prop := ((s0 < 0 → (post 1000000 V)) ∧ (¬ (s0 < 0) → ((10, w, 0) ∈ ks ∧ (11, w, 0) ∈ ks ∧ ((64 : Int32) ≤ s0 → (post 1000000 V)) ∧ (¬ ((64 : Int32) ≤ s0) → (vp_in s0 64 ∧ post (V 11 w 0 0 s0.toNatClampNeg) V)))))
def wp_X6_time (ks : List KY) (w : Nat) (a1 : Int32) (a2 : Int32) (V : VS) (post : Int32 → VS → Prop) : Prop := ((a1 = a2 → (post 0 V)) ∧ (¬ (a1 = a2) → ((a1 ≤ a2 → (wb_X6_time_27 ks w a1 a2 post ((a2 * 8) + a1) V)) ∧ (¬ (a1 ≤ a2) → (wb_X6_time_27 ks w a1 a2 post ((a1 * 8) + a2) V)))))
set_option maxHeartbeats 4000000 in
set_option maxRecDepth 100000 in
theorem c_X6_time (l : Launch) (G : GG) (ks : List KY) (ad : AD) (w : Nat) (a1 : Int32) (a2 : Int32) (V : VS) (post : Int32 → VS → Prop) (h : wp_X6_time ks w a1 a2 V post) (sz : Nat) : Met l yX6_time (ws_ yX6_time cX6_time 4 (some .int)) ({ frames := 0, cells := 0, slots := 0, locals := 0 }) (mPc [.ref (ad 10 w 0), .int a1, .int a2] G ks ad V sz) (mQi post G ks ad sz) 0 0 (mA ks ad sz) := by
  refine g_met (own := RX6) (by decide) rfl (Nat.le_of_ble_eq_true rfl) ?_
  intro p e s m args below meth c ls hC hsz hr hlk hin hS ha hl
  have hl : lv_has ls 4 [(0, .ref (ad 10 w 0)), (1, .int a1), (2, .int a2)] := hl
  unfold wp_X6_time at h
  have kT27 : ∀ (s0 : Int32) (V : VS) (H : Heap) (locs : List Loc) (ls : Array Slot), wb_X6_time_27 ks w a1 a2 post s0 V → ST G ks ad V (mA ks ad sz) s.heap H locs → lv_has ls 4 [(0, .ref (ad 10 w 0))] → W p l e ({ frames := 0, cells := 0, slots := 0, locals := 0 } : Room) s m args below meth c H locs 0 0 (MQ below (mQi post G ks ad sz) args s 0 0 (mA ks ad sz)) (F0 m 27 ls [.int s0]) := by
    intro s0 V H locs ls h hS hl
    unfold wb_X6_time_27 at h
    refine lv_istore_n (lv' := [(3, .int s0), (0, .ref (ad 10 w 0))]) hC.1 hC.2.1 dX6_time_27 rfl hl (by decide) rfl (fun ls hl => ?_)
    refine lv_iload_n hC.1 hC.2.1 dX6_time_28 rfl (lv_at hl 0 rfl) ?_
    refine lv_if_lt (tgt := 50) hC.1 hC.2.1 dX6_time_29 (by decide) (fun c5 => ?_) (fun c5 => ?_)
    · have h := h.1 c5
      refine lv_ldc hC.1 hC.2.1 hC.2.2.2.1 (hC.2.2.2.2.1 _ wq_634) dX6_time_50 ?_
      exact g_iret hC hr hlk hS h dX6_time_52
    · have h := h.2 c5
      refine lv_iload_n hC.1 hC.2.1 dX6_time_32 rfl (lv_at hl 0 rfl) ?_
      refine lv_aload_n hC.1 hC.2.1 dX6_time_33 rfl (lv_at hl 1 rfl) ?_
      obtain ⟨hk1, h⟩ := h
      refine gf_10_0 hC hS hk1 wq_112 dX6_time_34 ?_
      obtain ⟨hk2, h⟩ := h
      refine g_alen hC hS hk2 (by decide) dX6_time_37 ?_
      refine W.eq (g2 := F0 m 38 ls [.int 64, .int s0]) rfl ?_
      refine lv_icmp_ge (tgt := 50) hC.1 hC.2.1 dX6_time_38 (by decide) (fun c4 => ?_) (fun c4 => ?_)
      · have h := h.1 c4
        refine lv_ldc hC.1 hC.2.1 hC.2.2.2.1 (hC.2.2.2.2.1 _ wq_634) dX6_time_50 ?_
        exact g_iret hC hr hlk hS h dX6_time_52
      · have h := h.2 c4
        refine lv_aload_n hC.1 hC.2.1 dX6_time_41 rfl (lv_at hl 1 rfl) ?_
        refine gf_10_0 hC hS hk1 wq_112 dX6_time_42 ?_
        refine lv_iload_n hC.1 hC.2.1 dX6_time_45 rfl (lv_at hl 0 rfl) ?_
        obtain ⟨hx3, h⟩ := h
        refine g_iald hC hS hk2 (by decide) hx3 dX6_time_46 ?_
        refine lv_goto (tgt := 52) hC.1 hC.2.1 dX6_time_47 (by decide) ?_
        exact g_iret hC hr hlk hS h dX6_time_52
  refine lv_iload_n hC.1 hC.2.1 dX6_time_0 rfl (lv_at hl 1 rfl) ?_
  refine lv_iload_n hC.1 hC.2.1 dX6_time_1 rfl (lv_at hl 2 rfl) ?_
  refine lv_icmp_ne (tgt := 7) hC.1 hC.2.1 dX6_time_2 (by decide) (fun c7 => ?_) (fun c7 => ?_)
  · have h := h.2 c7
    refine lv_iload_n hC.1 hC.2.1 dX6_time_7 rfl (lv_at hl 1 rfl) ?_
    refine lv_iload_n hC.1 hC.2.1 dX6_time_8 rfl (lv_at hl 2 rfl) ?_
    refine lv_icmp_le (tgt := 21) hC.1 hC.2.1 dX6_time_9 (by decide) (fun c6 => ?_) (fun c6 => ?_)
    · have h := h.1 c6
      refine lv_iload_n hC.1 hC.2.1 dX6_time_21 rfl (lv_at hl 2 rfl) ?_
      refine lv_bipush (v := 8) hC.1 hC.2.1 dX6_time_22 (by decide) ?_
      refine lv_imul hC.1 hC.2.1 dX6_time_24 ?_
      refine lv_iload_n hC.1 hC.2.1 dX6_time_25 rfl (lv_at hl 1 rfl) ?_
      refine lv_iadd hC.1 hC.2.1 dX6_time_26 ?_
      exact kT27 _ _ _ _ _ h hS (lv_sub hl [0] rfl)
    · have h := h.2 c6
      refine lv_iload_n hC.1 hC.2.1 dX6_time_12 rfl (lv_at hl 1 rfl) ?_
      refine lv_bipush (v := 8) hC.1 hC.2.1 dX6_time_13 (by decide) ?_
      refine lv_imul hC.1 hC.2.1 dX6_time_15 ?_
      refine lv_iload_n hC.1 hC.2.1 dX6_time_16 rfl (lv_at hl 2 rfl) ?_
      refine lv_iadd hC.1 hC.2.1 dX6_time_17 ?_
      refine lv_goto (tgt := 27) hC.1 hC.2.1 dX6_time_18 (by decide) ?_
      exact kT27 _ _ _ _ _ h hS (lv_sub hl [0] rfl)
  · have h := h.1 c7
    refine lv_iconst (v := 0) hC.1 hC.2.1 dX6_time_5 (by decide) ?_
    exact g_iret hC hr hlk hS h dX6_time_6
def wb_X6_shorten_20 (ks : List KY) (w : Nat) (a1 : Int32) (a2 : Int32) (a3 : Int32) (post : VS → Prop) (x3 : Int32) (s0 : Int32) (V : VS) : Prop := ((s0 < 0 → (post V)) ∧ (¬ (s0 < 0) → ((10, w, 0) ∈ ks ∧ (11, w, 0) ∈ ks ∧ ((64 : Int32) ≤ s0 → (post V)) ∧ (¬ ((64 : Int32) ≤ s0) → (vp_in s0 64 ∧ ((V 11 w 0 0 s0.toNatClampNeg) ≤ x3 → (post V)) ∧ (¬ ((V 11 w 0 0 s0.toNatClampNeg) ≤ x3) → (∀ V4 : VS, V4 = vup V 11 w 0 0 s0.toNatClampNeg x3 → post V4)))))))
def wp_X6_shorten (ks : List KY) (w : Nat) (a1 : Int32) (a2 : Int32) (a3 : Int32) (V : VS) (post : VS → Prop) : Prop := ((a1 ≤ a2 → (wb_X6_shorten_20 ks w a1 a2 a3 post a3 ((a2 * 8) + a1) V)) ∧ (¬ (a1 ≤ a2) → (wb_X6_shorten_20 ks w a1 a2 a3 post a3 ((a1 * 8) + a2) V)))
set_option maxHeartbeats 4000000 in
set_option maxRecDepth 100000 in
theorem c_X6_shorten (l : Launch) (G : GG) (ks : List KY) (ad : AD) (w : Nat) (a1 : Int32) (a2 : Int32) (a3 : Int32) (V : VS) (post : VS → Prop) (h : wp_X6_shorten ks w a1 a2 a3 V post) (sz : Nat) : Met l yX6_shorten (ws_ yX6_shorten cX6_shorten 5 none) ({ frames := 0, cells := 0, slots := 0, locals := 0 }) (mPc [.ref (ad 10 w 0), .int a1, .int a2, .int a3] G ks ad V sz) (mQv post G ks ad sz) 0 0 (mA ks ad sz) := by
  refine g_met (own := RX6) (by decide) rfl (Nat.le_of_ble_eq_true rfl) ?_
  intro p e s m args below meth c ls hC hsz hr hlk hin hS ha hl
  have hl : lv_has ls 5 [(0, .ref (ad 10 w 0)), (1, .int a1), (2, .int a2), (3, .int a3)] := hl
  unfold wp_X6_shorten at h
  have kT20 : ∀ (x3 : Int32) (s0 : Int32) (V : VS) (H : Heap) (locs : List Loc) (ls : Array Slot), wb_X6_shorten_20 ks w a1 a2 a3 post x3 s0 V → ST G ks ad V (mA ks ad sz) s.heap H locs → lv_has ls 5 [(0, .ref (ad 10 w 0)), (3, .int x3)] → W p l e ({ frames := 0, cells := 0, slots := 0, locals := 0 } : Room) s m args below meth c H locs 0 0 (MQ below (mQv post G ks ad sz) args s 0 0 (mA ks ad sz)) (F0 m 20 ls [.int s0]) := by
    intro x3 s0 V H locs ls h hS hl
    unfold wb_X6_shorten_20 at h
    refine lv_istore (lv' := [(4, .int s0), (0, .ref (ad 10 w 0)), (3, .int x3)]) hC.1 hC.2.1 dX6_shorten_20 hl (by decide) rfl (fun ls hl => ?_)
    refine lv_iload hC.1 hC.2.1 dX6_shorten_22 (lv_at hl 0 rfl) ?_
    refine lv_if_lt (tgt := 56) hC.1 hC.2.1 dX6_shorten_24 (by decide) (fun c7 => ?_) (fun c7 => ?_)
    · have h := h.1 c7
      exact g_vret hC hr hlk hS h dX6_shorten_56
    · have h := h.2 c7
      refine lv_iload hC.1 hC.2.1 dX6_shorten_27 (lv_at hl 0 rfl) ?_
      refine lv_aload_n hC.1 hC.2.1 dX6_shorten_29 rfl (lv_at hl 1 rfl) ?_
      obtain ⟨hk1, h⟩ := h
      refine gf_10_0 hC hS hk1 wq_112 dX6_shorten_30 ?_
      obtain ⟨hk2, h⟩ := h
      refine g_alen hC hS hk2 (by decide) dX6_shorten_33 ?_
      refine W.eq (g2 := F0 m 34 ls [.int 64, .int s0]) rfl ?_
      refine lv_icmp_ge (tgt := 56) hC.1 hC.2.1 dX6_shorten_34 (by decide) (fun c6 => ?_) (fun c6 => ?_)
      · have h := h.1 c6
        exact g_vret hC hr hlk hS h dX6_shorten_56
      · have h := h.2 c6
        refine lv_iload_n hC.1 hC.2.1 dX6_shorten_37 rfl (lv_at hl 2 rfl) ?_
        refine lv_aload_n hC.1 hC.2.1 dX6_shorten_38 rfl (lv_at hl 1 rfl) ?_
        refine gf_10_0 hC hS hk1 wq_112 dX6_shorten_39 ?_
        refine lv_iload hC.1 hC.2.1 dX6_shorten_42 (lv_at hl 0 rfl) ?_
        obtain ⟨hx3, h⟩ := h
        refine g_iald hC hS hk2 (by decide) hx3 dX6_shorten_44 ?_
        refine lv_icmp_ge (tgt := 56) hC.1 hC.2.1 dX6_shorten_45 (by decide) (fun c5 => ?_) (fun c5 => ?_)
        · have h := h.1 c5
          exact g_vret hC hr hlk hS h dX6_shorten_56
        · have h := h.2 c5
          refine lv_aload_n hC.1 hC.2.1 dX6_shorten_48 rfl (lv_at hl 1 rfl) ?_
          refine gf_10_0 hC hS hk1 wq_112 dX6_shorten_49 ?_
          refine lv_iload hC.1 hC.2.1 dX6_shorten_52 (lv_at hl 0 rfl) ?_
          refine lv_iload_n hC.1 hC.2.1 dX6_shorten_54 rfl (lv_at hl 2 rfl) ?_
          refine g_iast hC hS hk2 (by decide) hx3 dX6_shorten_55 (fun H locs hS => ?_)
          obtain ⟨V4, eV4⟩ : ∃ z : VS, z = vup V 11 w 0 0 s0.toNatClampNeg x3 := ⟨_, rfl⟩
          rw [← eV4] at hS
          have h := h V4 eV4
          exact g_vret hC hr hlk hS h dX6_shorten_56
  refine lv_iload_n hC.1 hC.2.1 dX6_shorten_0 rfl (lv_at hl 1 rfl) ?_
  refine lv_iload_n hC.1 hC.2.1 dX6_shorten_1 rfl (lv_at hl 2 rfl) ?_
  refine lv_icmp_le (tgt := 14) hC.1 hC.2.1 dX6_shorten_2 (by decide) (fun c8 => ?_) (fun c8 => ?_)
  · have h := h.1 c8
    refine lv_iload_n hC.1 hC.2.1 dX6_shorten_14 rfl (lv_at hl 2 rfl) ?_
    refine lv_bipush (v := 8) hC.1 hC.2.1 dX6_shorten_15 (by decide) ?_
    refine lv_imul hC.1 hC.2.1 dX6_shorten_17 ?_
    refine lv_iload_n hC.1 hC.2.1 dX6_shorten_18 rfl (lv_at hl 1 rfl) ?_
    refine lv_iadd hC.1 hC.2.1 dX6_shorten_19 ?_
    exact kT20 _ _ _ _ _ _ h hS (lv_sub hl [0, 3] rfl)
  · have h := h.2 c8
    refine lv_iload_n hC.1 hC.2.1 dX6_shorten_5 rfl (lv_at hl 1 rfl) ?_
    refine lv_bipush (v := 8) hC.1 hC.2.1 dX6_shorten_6 (by decide) ?_
    refine lv_imul hC.1 hC.2.1 dX6_shorten_8 ?_
    refine lv_iload_n hC.1 hC.2.1 dX6_shorten_9 rfl (lv_at hl 2 rfl) ?_
    refine lv_iadd hC.1 hC.2.1 dX6_shorten_10 ?_
    refine lv_goto (tgt := 20) hC.1 hC.2.1 dX6_shorten_11 (by decide) ?_
    exact kT20 _ _ _ _ _ _ h hS (lv_sub hl [0, 3] rfl)
def wk_X6_measure_106 (ks : List KY) (w w2 : Nat) (a1 : Int32) (post : VS → Prop) (B80 : Int32 → VS → Prop) (B88 : Int32 → VS → Prop) (B106 : Int32 → VS → Prop) (x1 : Int32) (x3 : Int32) (x4 : Int32) (x5 : Int32) (x6 : Int32) (V : VS) : Prop := (((1000000 : Int32) ≤ x5 → (∀ y1 : Int32, y1 = x4 + 1 → B88 y1 V)) ∧ (¬ ((1000000 : Int32) ≤ x5) → ((x4 ≤ x6 → (∀ y2 : Int32, y2 = x4 + 1 → B88 y2 V)) ∧ (¬ (x4 ≤ x6) → ((10, w, 0) ∈ ks ∧ wp_X6_time ks w x3 x6 V (fun r5 V3 => (wp_X6_shorten ks w x4 x6 (x5 + r5) V3 (fun V6 => (∀ y7 : Int32, y7 = x6 + 1 → B106 y7 V6)))))))))
def wl_X6_measure_106 (ks : List KY) (w w2 : Nat) (a1 : Int32) (post : VS → Prop) (B80 : Int32 → VS → Prop) (B88 : Int32 → VS → Prop) (x1 : Int32) (x3 : Int32) (x4 : Int32) (x5 : Int32) (x6 : Int32) (V : VS) : Prop := ∃ J : Nat → Int32 → VS → Prop, (∃ n, J n x6 V) ∧ ∀ (n : Nat) (x6 : Int32) (V : VS), J n x6 V → wk_X6_measure_106 ks w w2 a1 post B80 B88 (fun x6 V => ∃ n', n' < n ∧ J n' x6 V) x1 x3 x4 x5 x6 V
def wk_X6_measure_88 (ks : List KY) (w w2 : Nat) (a1 : Int32) (post : VS → Prop) (B80 : Int32 → VS → Prop) (B88 : Int32 → VS → Prop) (x1 : Int32) (x3 : Int32) (x4 : Int32) (V : VS) : Prop := ((x1 ≤ x4 → (∀ y10 : Int32, y10 = x3 + 1 → B80 y10 V)) ∧ (¬ (x1 ≤ x4) → ((10, w, 0) ∈ ks ∧ wp_X6_time ks w x4 x3 V (fun r13 V11 => (wl_X6_measure_106 ks w w2 a1 post B80 B88 x1 x3 x4 r13 0 V11)))))
def wl_X6_measure_88 (ks : List KY) (w w2 : Nat) (a1 : Int32) (post : VS → Prop) (B80 : Int32 → VS → Prop) (x1 : Int32) (x3 : Int32) (x4 : Int32) (V : VS) : Prop := ∃ J : Nat → Int32 → VS → Prop, (∃ n, J n x4 V) ∧ ∀ (n : Nat) (x4 : Int32) (V : VS), J n x4 V → wk_X6_measure_88 ks w w2 a1 post B80 (fun x4 V => ∃ n', n' < n ∧ J n' x4 V) x1 x3 x4 V
def wk_X6_measure_80 (ks : List KY) (w w2 : Nat) (a1 : Int32) (post : VS → Prop) (B80 : Int32 → VS → Prop) (x1 : Int32) (x3 : Int32) (V : VS) : Prop := ((x1 ≤ x3 → (post V)) ∧ (¬ (x1 ≤ x3) → (wl_X6_measure_88 ks w w2 a1 post B80 x1 x3 0 V)))
def wl_X6_measure_80 (ks : List KY) (w w2 : Nat) (a1 : Int32) (post : VS → Prop) (x1 : Int32) (x3 : Int32) (V : VS) : Prop := ∃ J : Nat → Int32 → VS → Prop, (∃ n, J n x3 V) ∧ ∀ (n : Nat) (x3 : Int32) (V : VS), J n x3 V → wk_X6_measure_80 ks w w2 a1 post (fun x3 V => ∃ n', n' < n ∧ J n' x3 V) x1 x3 V
def wk_X6_measure_27 (ks : List KY) (w w2 : Nat) (a1 : Int32) (post : VS → Prop) (B27 : Int32 → VS → Prop) (x1 : Int32) (x3 : Int32) (V : VS) : Prop := ((2, w2, 1) ∈ ks ∧ ((V 2 w2 1 2 0) ≤ x3 → (wl_X6_measure_80 ks w w2 a1 post x1 0 V)) ∧ (¬ ((V 2 w2 1 2 0) ≤ x3) → ((3, w2, 1) ∈ ks ∧ lsz V w2 1 ≤ 33 ∧ (¬ x3 < 0 ∧ x3 < V 2 w2 1 2 0) ∧ ∀ j20 : Nat, j20 = x3.toNatClampNeg → (5, w2, j20) ∈ ks ∧ wp_X2_isUsable ks w2 j20 V (fun r23 V22 => ((r23 = 0 → (∀ y24 : Int32, y24 = x3 + 1 → B27 y24 V22)) ∧ (¬ (r23 = 0) → (wp_X2_minutes ks w2 j20 V22 (fun r26 V25 => ((10, w, 0) ∈ ks ∧ wp_X6_shorten ks w (V22 5 w2 j20 0 0) (V22 5 w2 j20 1 0) r26 V25 (fun V27 => (∀ y29 : Int32, y29 = x3 + 1 → B27 y29 V27)))))))))))
def wl_X6_measure_27 (ks : List KY) (w w2 : Nat) (a1 : Int32) (post : VS → Prop) (x1 : Int32) (x3 : Int32) (V : VS) : Prop := ∃ J : Nat → Int32 → VS → Prop, (∃ n, J n x3 V) ∧ ∀ (n : Nat) (x3 : Int32) (V : VS), J n x3 V → wk_X6_measure_27 ks w w2 a1 post (fun x3 V => ∃ n', n' < n ∧ J n' x3 V) x1 x3 V
def wk_X6_measure_2 (ks : List KY) (w w2 : Nat) (a1 : Int32) (post : VS → Prop) (B2 : Int32 → VS → Prop) (x1 : Int32) (x3 : Int32) (V : VS) : Prop := ((10, w, 0) ∈ ks ∧ (11, w, 0) ∈ ks ∧ ((64 : Int32) ≤ x3 → (wl_X6_measure_27 ks w w2 a1 post x1 0 V)) ∧ (¬ ((64 : Int32) ≤ x3) → (vp_in x3 64 ∧ ∀ V35 : VS, V35 = vup V 11 w 0 0 x3.toNatClampNeg 1000000 → ∀ y36 : Int32, y36 = x3 + 1 → B2 y36 V35)))
def wl_X6_measure_2 (ks : List KY) (w w2 : Nat) (a1 : Int32) (post : VS → Prop) (x1 : Int32) (x3 : Int32) (V : VS) : Prop := ∃ J : Nat → Int32 → VS → Prop, (∃ n, J n x3 V) ∧ ∀ (n : Nat) (x3 : Int32) (V : VS), J n x3 V → wk_X6_measure_2 ks w w2 a1 post (fun x3 V => ∃ n', n' < n ∧ J n' x3 V) x1 x3 V
def wp_X6_measure (ks : List KY) (w w2 : Nat) (a1 : Int32) (V : VS) (post : VS → Prop) : Prop := (wl_X6_measure_2 ks w w2 a1 post a1 0 V)
set_option maxHeartbeats 4000000 in
set_option maxRecDepth 100000 in
theorem c_X6_measure (l : Launch) (G : GG) (ks : List KY) (ad : AD) (w : Nat) (w2 : Nat) (a1 : Int32) (V : VS) (post : VS → Prop) (h : wp_X6_measure ks w w2 a1 V post) (sz : Nat) : Met l yX6_measure (ws_ yX6_measure cX6_measure 7 none) ({ frames := 3, cells := 0, slots := 0, locals := 64 }) (mPc [.ref (ad 10 w 0), .int a1, .ref (ad 2 w2 1)] G ks ad V sz) (mQv post G ks ad sz) 0 0 (mA ks ad sz) := by
  refine g_met (own := RX6) (by decide) rfl (Nat.le_of_ble_eq_true rfl) ?_
  intro p e s m args below meth c ls hC hsz hr hlk hin hS ha hl
  have hl : lv_has ls 7 [(0, .ref (ad 10 w 0)), (1, .int a1), (2, .ref (ad 2 w2 1))] := hl
  unfold wp_X6_measure at h
  have kT80 : ∀ (x1 : Int32) (x3 : Int32) (V : VS) (H : Heap) (locs : List Loc) (ls : Array Slot), wl_X6_measure_80 ks w w2 a1 post x1 x3 V → ST G ks ad V (mA ks ad sz) s.heap H locs → lv_has ls 7 [(0, .ref (ad 10 w 0)), (1, .int x1), (3, .int x3)] → W p l e ({ frames := 3, cells := 0, slots := 0, locals := 64 } : Room) s m args below meth c H locs 0 0 (MQ below (mQv post G ks ad sz) args s 0 0 (mA ks ad sz)) (F0 m 80 ls []) := by
    intro x1 x3 V H locs ls h hS hl
    obtain ⟨J, ⟨n, hJ⟩, hb⟩ := h
    induction n using Nat.strongRecOn generalizing x3 V H locs ls with
    | _ n ih =>
      have h := hb n x3 V hJ
      obtain ⟨B80, eB⟩ : ∃ z : Int32 → VS → Prop, z = (fun x3 V => ∃ n', n' < n ∧ J n' x3 V) := ⟨_, rfl⟩
      rw [← eB] at h
      have kB80 : ∀ (x3 : Int32) (V : VS) (H : Heap) (locs : List Loc) (ls : Array Slot), B80 x3 V → ST G ks ad V (mA ks ad sz) s.heap H locs → lv_has ls 7 [(0, .ref (ad 10 w 0)), (1, .int x1), (3, .int x3)] → W p l e ({ frames := 3, cells := 0, slots := 0, locals := 64 } : Room) s m args below meth c H locs 0 0 (MQ below (mQv post G ks ad sz) args s 0 0 (mA ks ad sz)) (F0 m 80 ls []) := by
        intro x3 V H locs ls h hS hl
        rw [eB] at h
        obtain ⟨n', hn, hJ'⟩ := h
        exact ih n' hn _ _ _ _ _ hS hl hJ'
      clear ih hJ hb eB
      unfold wk_X6_measure_80 at h
      have kT88 : ∀ (x3 : Int32) (x4 : Int32) (V : VS) (H : Heap) (locs : List Loc) (ls : Array Slot), wl_X6_measure_88 ks w w2 a1 post B80 x1 x3 x4 V → ST G ks ad V (mA ks ad sz) s.heap H locs → lv_has ls 7 [(0, .ref (ad 10 w 0)), (1, .int x1), (3, .int x3), (4, .int x4)] → W p l e ({ frames := 3, cells := 0, slots := 0, locals := 64 } : Room) s m args below meth c H locs 0 0 (MQ below (mQv post G ks ad sz) args s 0 0 (mA ks ad sz)) (F0 m 88 ls []) := by
        intro x3 x4 V H locs ls h hS hl
        obtain ⟨J, ⟨n, hJ⟩, hb⟩ := h
        induction n using Nat.strongRecOn generalizing x4 V H locs ls with
        | _ n ih =>
          have h := hb n x4 V hJ
          obtain ⟨B88, eB⟩ : ∃ z : Int32 → VS → Prop, z = (fun x4 V => ∃ n', n' < n ∧ J n' x4 V) := ⟨_, rfl⟩
          rw [← eB] at h
          have kB88 : ∀ (x4 : Int32) (V : VS) (H : Heap) (locs : List Loc) (ls : Array Slot), B88 x4 V → ST G ks ad V (mA ks ad sz) s.heap H locs → lv_has ls 7 [(0, .ref (ad 10 w 0)), (1, .int x1), (3, .int x3), (4, .int x4)] → W p l e ({ frames := 3, cells := 0, slots := 0, locals := 64 } : Room) s m args below meth c H locs 0 0 (MQ below (mQv post G ks ad sz) args s 0 0 (mA ks ad sz)) (F0 m 88 ls []) := by
            intro x4 V H locs ls h hS hl
            rw [eB] at h
            obtain ⟨n', hn, hJ'⟩ := h
            exact ih n' hn _ _ _ _ _ hS hl hJ'
          clear ih hJ hb eB
          unfold wk_X6_measure_88 at h
          have kT106 : ∀ (x4 : Int32) (x5 : Int32) (x6 : Int32) (V : VS) (H : Heap) (locs : List Loc) (ls : Array Slot), wl_X6_measure_106 ks w w2 a1 post B80 B88 x1 x3 x4 x5 x6 V → ST G ks ad V (mA ks ad sz) s.heap H locs → lv_has ls 7 [(0, .ref (ad 10 w 0)), (1, .int x1), (3, .int x3), (4, .int x4), (5, .int x5), (6, .int x6)] → W p l e ({ frames := 3, cells := 0, slots := 0, locals := 64 } : Room) s m args below meth c H locs 0 0 (MQ below (mQv post G ks ad sz) args s 0 0 (mA ks ad sz)) (F0 m 106 ls []) := by
            intro x4 x5 x6 V H locs ls h hS hl
            obtain ⟨J, ⟨n, hJ⟩, hb⟩ := h
            induction n using Nat.strongRecOn generalizing x6 V H locs ls with
            | _ n ih =>
              have h := hb n x6 V hJ
              obtain ⟨B106, eB⟩ : ∃ z : Int32 → VS → Prop, z = (fun x6 V => ∃ n', n' < n ∧ J n' x6 V) := ⟨_, rfl⟩
              rw [← eB] at h
              have kB106 : ∀ (x6 : Int32) (V : VS) (H : Heap) (locs : List Loc) (ls : Array Slot), B106 x6 V → ST G ks ad V (mA ks ad sz) s.heap H locs → lv_has ls 7 [(0, .ref (ad 10 w 0)), (1, .int x1), (3, .int x3), (4, .int x4), (5, .int x5), (6, .int x6)] → W p l e ({ frames := 3, cells := 0, slots := 0, locals := 64 } : Room) s m args below meth c H locs 0 0 (MQ below (mQv post G ks ad sz) args s 0 0 (mA ks ad sz)) (F0 m 106 ls []) := by
                intro x6 V H locs ls h hS hl
                rw [eB] at h
                obtain ⟨n', hn, hJ'⟩ := h
                exact ih n' hn _ _ _ _ _ hS hl hJ'
              clear ih hJ hb eB
              unfold wk_X6_measure_106 at h
              refine lv_iload hC.1 hC.2.1 dX6_measure_106 (lv_at hl 4 rfl) ?_
              refine lv_ldc hC.1 hC.2.1 hC.2.2.2.1 (hC.2.2.2.2.1 _ wq_634) dX6_measure_108 ?_
              refine lv_icmp_ge (tgt := 144) hC.1 hC.2.1 dX6_measure_110 (by decide) (fun c9 => ?_) (fun c9 => ?_)
              · have h := h.1 c9
                obtain ⟨y1, ey1⟩ : ∃ z : Int32, z = x4 + 1 := ⟨_, rfl⟩
                have h := h y1 ey1
                refine lv_iinc (v := y1) (lv' := [(4, .int y1), (0, .ref (ad 10 w 0)), (1, .int x1), (3, .int x3), (5, .int x5), (6, .int x6)]) hC.1 hC.2.1 dX6_measure_144 hl (k := 3) rfl (by rw [ey1]; rfl) (by decide) rfl (fun ls hl => ?_)
                refine lv_goto (tgt := 88) hC.1 hC.2.1 dX6_measure_147 (by decide) ?_
                exact kB88 _ _ _ _ _ h hS (lv_sub hl [1, 2, 3, 0] rfl)
              · have h := h.2 c9
                refine lv_iload hC.1 hC.2.1 dX6_measure_113 (lv_at hl 5 rfl) ?_
                refine lv_iload hC.1 hC.2.1 dX6_measure_115 (lv_at hl 3 rfl) ?_
                refine lv_icmp_ge (tgt := 144) hC.1 hC.2.1 dX6_measure_117 (by decide) (fun c8 => ?_) (fun c8 => ?_)
                · have h := h.1 c8
                  obtain ⟨y2, ey2⟩ : ∃ z : Int32, z = x4 + 1 := ⟨_, rfl⟩
                  have h := h y2 ey2
                  refine lv_iinc (v := y2) (lv' := [(4, .int y2), (0, .ref (ad 10 w 0)), (1, .int x1), (3, .int x3), (5, .int x5), (6, .int x6)]) hC.1 hC.2.1 dX6_measure_144 hl (k := 3) rfl (by rw [ey2]; rfl) (by decide) rfl (fun ls hl => ?_)
                  refine lv_goto (tgt := 88) hC.1 hC.2.1 dX6_measure_147 (by decide) ?_
                  exact kB88 _ _ _ _ _ h hS (lv_sub hl [1, 2, 3, 0] rfl)
                · have h := h.2 c8
                  refine lv_aload_n hC.1 hC.2.1 dX6_measure_120 rfl (lv_at hl 0 rfl) ?_
                  refine lv_iload hC.1 hC.2.1 dX6_measure_121 (lv_at hl 3 rfl) ?_
                  refine lv_iload hC.1 hC.2.1 dX6_measure_123 (lv_at hl 5 rfl) ?_
                  refine lv_iload hC.1 hC.2.1 dX6_measure_125 (lv_at hl 4 rfl) ?_
                  refine lv_aload_n hC.1 hC.2.1 dX6_measure_127 rfl (lv_at hl 0 rfl) ?_
                  refine lv_iload_n hC.1 hC.2.1 dX6_measure_128 rfl (lv_at hl 2 rfl) ?_
                  refine lv_iload hC.1 hC.2.1 dX6_measure_129 (lv_at hl 5 rfl) ?_
                  obtain ⟨hk4, h⟩ := h
                  refine g_calli0 hS (g_runV (n := 2) (rest := [.int x5, .int x6, .int x4, .ref (ad 10 w 0)]) (As := [.int x3, .int x6]) (C := RX6) (T := TX6) (N := 1) hC hS hk4 rfl rfl (c_X6_time l G ks ad w x3 x6 V _ h _) (gI wq_644 wq_645 wq_646 wq_44 wq_647) rfl ⟨⟨by decide +kernel, by decide +kernel, by decide +kernel⟩, rfl, rfl, Nat.le_of_ble_eq_true rfl, Nat.le_of_ble_eq_true rfl⟩ rfl hl rfl (Nat.le_of_ble_eq_true rfl) dX6_measure_131 ⟨Nat.le_of_ble_eq_true rfl, Nat.le_of_ble_eq_true rfl⟩) (fun r5 V3 H locs h hS => ?_)
                  refine lv_iadd hC.1 hC.2.1 dX6_measure_134 ?_
                  refine g_callv0 hS (g_runV (n := 3) (rest := []) (As := [.int x4, .int x6, .int (x5 + r5)]) (C := RX6) (T := TX6) (N := 1) hC hS hk4 rfl rfl (c_X6_shorten l G ks ad w x4 x6 (x5 + r5) V3 _ h _) (gI wq_640 wq_642 wq_11 wq_44 wq_643) rfl ⟨⟨by decide +kernel, by decide +kernel, by decide +kernel⟩, rfl, rfl, Nat.le_of_ble_eq_true rfl, Nat.le_of_ble_eq_true rfl⟩ rfl hl rfl (Nat.le_of_ble_eq_true rfl) dX6_measure_135 ⟨Nat.le_of_ble_eq_true rfl, Nat.le_of_ble_eq_true rfl⟩) (fun V6 H locs h hS => ?_)
                  obtain ⟨y7, ey7⟩ : ∃ z : Int32, z = x6 + 1 := ⟨_, rfl⟩
                  have h := h y7 ey7
                  refine lv_iinc (v := y7) (lv' := [(6, .int y7), (0, .ref (ad 10 w 0)), (1, .int x1), (3, .int x3), (4, .int x4), (5, .int x5)]) hC.1 hC.2.1 dX6_measure_138 hl (k := 5) rfl (by rw [ey7]; rfl) (by decide) rfl (fun ls hl => ?_)
                  refine lv_goto (tgt := 106) hC.1 hC.2.1 dX6_measure_141 (by decide) ?_
                  exact kB106 _ _ _ _ _ h hS (lv_sub hl [1, 2, 3, 4, 5, 0] rfl)
          refine lv_iload hC.1 hC.2.1 dX6_measure_88 (lv_at hl 3 rfl) ?_
          refine lv_iload_n hC.1 hC.2.1 dX6_measure_90 rfl (lv_at hl 1 rfl) ?_
          refine lv_icmp_ge (tgt := 150) hC.1 hC.2.1 dX6_measure_91 (by decide) (fun c14 => ?_) (fun c14 => ?_)
          · have h := h.1 c14
            obtain ⟨y10, ey10⟩ : ∃ z : Int32, z = x3 + 1 := ⟨_, rfl⟩
            have h := h y10 ey10
            refine lv_iinc (v := y10) (lv' := [(3, .int y10), (0, .ref (ad 10 w 0)), (1, .int x1), (4, .int x4)]) hC.1 hC.2.1 dX6_measure_150 hl (k := 2) rfl (by rw [ey10]; rfl) (by decide) rfl (fun ls hl => ?_)
            refine lv_goto (tgt := 80) hC.1 hC.2.1 dX6_measure_153 (by decide) ?_
            exact kB80 _ _ _ _ _ h hS (lv_sub hl [1, 2, 0] rfl)
          · have h := h.2 c14
            refine lv_aload_n hC.1 hC.2.1 dX6_measure_94 rfl (lv_at hl 0 rfl) ?_
            refine lv_iload hC.1 hC.2.1 dX6_measure_95 (lv_at hl 3 rfl) ?_
            refine lv_iload_n hC.1 hC.2.1 dX6_measure_97 rfl (lv_at hl 2 rfl) ?_
            obtain ⟨hk12, h⟩ := h
            refine g_calli0 hS (g_runV (n := 2) (rest := []) (As := [.int x4, .int x3]) (C := RX6) (T := TX6) (N := 1) hC hS hk12 rfl rfl (c_X6_time l G ks ad w x4 x3 V _ h _) (gI wq_644 wq_645 wq_646 wq_44 wq_647) rfl ⟨⟨by decide +kernel, by decide +kernel, by decide +kernel⟩, rfl, rfl, Nat.le_of_ble_eq_true rfl, Nat.le_of_ble_eq_true rfl⟩ rfl hl rfl (Nat.le_of_ble_eq_true rfl) dX6_measure_98 ⟨Nat.le_of_ble_eq_true rfl, Nat.le_of_ble_eq_true rfl⟩) (fun r13 V11 H locs h hS => ?_)
            refine lv_istore (lv' := [(5, .int r13), (0, .ref (ad 10 w 0)), (1, .int x1), (3, .int x3), (4, .int x4)]) hC.1 hC.2.1 dX6_measure_101 hl (by decide) rfl (fun ls hl => ?_)
            refine lv_iconst (v := 0) hC.1 hC.2.1 dX6_measure_103 (by decide) ?_
            refine lv_istore (lv' := [(6, .int 0), (5, .int r13), (0, .ref (ad 10 w 0)), (1, .int x1), (3, .int x3), (4, .int x4)]) hC.1 hC.2.1 dX6_measure_104 hl (by decide) rfl (fun ls hl => ?_)
            exact kT106 _ _ _ _ _ _ _ h hS (lv_sub hl [2, 3, 4, 5, 1, 0] rfl)
      refine lv_iload_n hC.1 hC.2.1 dX6_measure_80 rfl (lv_at hl 2 rfl) ?_
      refine lv_iload_n hC.1 hC.2.1 dX6_measure_81 rfl (lv_at hl 1 rfl) ?_
      refine lv_icmp_ge (tgt := 156) hC.1 hC.2.1 dX6_measure_82 (by decide) (fun c15 => ?_) (fun c15 => ?_)
      · have h := h.1 c15
        exact g_vret hC hr hlk hS h dX6_measure_156
      · have h := h.2 c15
        refine lv_iconst (v := 0) hC.1 hC.2.1 dX6_measure_85 (by decide) ?_
        refine lv_istore (lv' := [(4, .int 0), (0, .ref (ad 10 w 0)), (1, .int x1), (3, .int x3)]) hC.1 hC.2.1 dX6_measure_86 hl (by decide) rfl (fun ls hl => ?_)
        exact kT88 _ _ _ _ _ _ h hS (lv_sub hl [1, 2, 3, 0] rfl)
  have kT27 : ∀ (x1 : Int32) (x3 : Int32) (V : VS) (H : Heap) (locs : List Loc) (ls : Array Slot), wl_X6_measure_27 ks w w2 a1 post x1 x3 V → ST G ks ad V (mA ks ad sz) s.heap H locs → lv_has ls 7 [(0, .ref (ad 10 w 0)), (1, .int x1), (2, .ref (ad 2 w2 1)), (3, .int x3)] → W p l e ({ frames := 3, cells := 0, slots := 0, locals := 64 } : Room) s m args below meth c H locs 0 0 (MQ below (mQv post G ks ad sz) args s 0 0 (mA ks ad sz)) (F0 m 27 ls []) := by
    intro x1 x3 V H locs ls h hS hl
    obtain ⟨J, ⟨n, hJ⟩, hb⟩ := h
    induction n using Nat.strongRecOn generalizing x3 V H locs ls with
    | _ n ih =>
      have h := hb n x3 V hJ
      obtain ⟨B27, eB⟩ : ∃ z : Int32 → VS → Prop, z = (fun x3 V => ∃ n', n' < n ∧ J n' x3 V) := ⟨_, rfl⟩
      rw [← eB] at h
      have kB27 : ∀ (x3 : Int32) (V : VS) (H : Heap) (locs : List Loc) (ls : Array Slot), B27 x3 V → ST G ks ad V (mA ks ad sz) s.heap H locs → lv_has ls 7 [(0, .ref (ad 10 w 0)), (1, .int x1), (2, .ref (ad 2 w2 1)), (3, .int x3)] → W p l e ({ frames := 3, cells := 0, slots := 0, locals := 64 } : Room) s m args below meth c H locs 0 0 (MQ below (mQv post G ks ad sz) args s 0 0 (mA ks ad sz)) (F0 m 27 ls []) := by
        intro x3 V H locs ls h hS hl
        rw [eB] at h
        obtain ⟨n', hn, hJ'⟩ := h
        exact ih n' hn _ _ _ _ _ hS hl hJ'
      clear ih hJ hb eB
      unfold wk_X6_measure_27 at h
      refine lv_iload_n hC.1 hC.2.1 dX6_measure_27 rfl (lv_at hl 3 rfl) ?_
      refine lv_aload_n hC.1 hC.2.1 dX6_measure_28 rfl (lv_at hl 2 rfl) ?_
      obtain ⟨hk16, h⟩ := h
      refine g_lsize hC hS hk16 wq_635 hl ⟨Nat.le_of_ble_eq_true rfl, Nat.le_of_ble_eq_true rfl, Nat.zero_le _⟩ (Nat.le_of_ble_eq_true rfl) dX6_measure_29 ⟨Nat.le_of_ble_eq_true rfl, Nat.le_of_ble_eq_true rfl⟩ (fun H locs hS => ?_)
      refine lv_icmp_ge (tgt := 78) hC.1 hC.2.1 dX6_measure_32 (by decide) (fun c31 => ?_) (fun c31 => ?_)
      · have h := h.1 c31
        refine lv_iconst (v := 0) hC.1 hC.2.1 dX6_measure_78 (by decide) ?_
        refine lv_istore_n (lv' := [(3, .int 0), (0, .ref (ad 10 w 0)), (1, .int x1), (2, .ref (ad 2 w2 1))]) hC.1 hC.2.1 dX6_measure_79 rfl hl (by decide) rfl (fun ls hl => ?_)
        exact kT80 _ _ _ _ _ _ h hS (lv_sub hl [1, 2, 0] rfl)
      · have h := h.2 c31
        refine lv_aload_n hC.1 hC.2.1 dX6_measure_35 rfl (lv_at hl 2 rfl) ?_
        refine lv_iload_n hC.1 hC.2.1 dX6_measure_36 rfl (lv_at hl 3 rfl) ?_
        obtain ⟨hk17, h⟩ := h
        obtain ⟨hq18, h⟩ := h
        obtain ⟨hx19, h⟩ := h
        refine g_lget (E := 5) hC hS rfl hk16 hk17 hq18 hx19.1 hx19.2 wq_636 hl ⟨Nat.le_of_ble_eq_true rfl, Nat.le_of_ble_eq_true rfl, Nat.zero_le _⟩ (Nat.le_of_ble_eq_true rfl) dX6_measure_37 ⟨Nat.le_of_ble_eq_true rfl, Nat.le_of_ble_eq_true rfl⟩ (fun j20 ej20 H locs hS => ?_)
        have h := h j20 ej20
        obtain ⟨hk21, h⟩ := h
        refine g_cast hC hS hk21 rfl (show vwCl[3]? = some (RX2, TX2, 5) from rfl) wq_637 dX6_measure_40 ?_
        refine lv_astore (lv' := [(4, .ref (ad 5 w2 j20)), (0, .ref (ad 10 w 0)), (1, .int x1), (2, .ref (ad 2 w2 1)), (3, .int x3)]) hC.1 hC.2.1 dX6_measure_43 hl (by decide) rfl (fun ls hl => ?_)
        refine lv_aload hC.1 hC.2.1 dX6_measure_45 (lv_at hl 0 rfl) ?_
        refine g_calli0 hS (g_runV (n := 0) (rest := []) (As := []) (C := RX2) (T := TX2) (N := 5) hC hS hk21 rfl rfl (c_X2_isUsable l G ks ad w2 j20 V _ h _) (gI wq_638 wq_235 wq_236 wq_59 wq_237) rfl ⟨⟨by decide +kernel, by decide +kernel, by decide +kernel⟩, rfl, rfl, Nat.le_of_ble_eq_true rfl, Nat.le_of_ble_eq_true rfl⟩ rfl hl rfl (Nat.le_of_ble_eq_true rfl) dX6_measure_47 ⟨Nat.le_of_ble_eq_true rfl, Nat.le_of_ble_eq_true rfl⟩) (fun r23 V22 H locs h hS => ?_)
        refine lv_if_eq (tgt := 72) hC.1 hC.2.1 dX6_measure_50 (by decide) (fun c30 => ?_) (fun c30 => ?_)
        · have h := h.1 c30
          obtain ⟨y24, ey24⟩ : ∃ z : Int32, z = x3 + 1 := ⟨_, rfl⟩
          have h := h y24 ey24
          refine lv_iinc (v := y24) (lv' := [(3, .int y24), (4, .ref (ad 5 w2 j20)), (0, .ref (ad 10 w 0)), (1, .int x1), (2, .ref (ad 2 w2 1))]) hC.1 hC.2.1 dX6_measure_72 hl (k := 4) rfl (by rw [ey24]; rfl) (by decide) rfl (fun ls hl => ?_)
          refine lv_goto (tgt := 27) hC.1 hC.2.1 dX6_measure_75 (by decide) ?_
          exact kB27 _ _ _ _ _ h hS (lv_sub hl [2, 3, 4, 0] rfl)
        · have h := h.2 c30
          refine lv_aload_n hC.1 hC.2.1 dX6_measure_53 rfl (lv_at hl 1 rfl) ?_
          refine lv_aload hC.1 hC.2.1 dX6_measure_54 (lv_at hl 0 rfl) ?_
          refine gn_5_0 hC hS hk21 wq_545 dX6_measure_56 ?_
          refine lv_aload hC.1 hC.2.1 dX6_measure_59 (lv_at hl 0 rfl) ?_
          refine gn_5_1 hC hS hk21 wq_548 dX6_measure_61 ?_
          refine lv_aload hC.1 hC.2.1 dX6_measure_64 (lv_at hl 0 rfl) ?_
          refine g_calli0 hS (g_runV (n := 0) (rest := [.int (V22 5 w2 j20 1 0), .int (V22 5 w2 j20 0 0), .ref (ad 10 w 0)]) (As := []) (C := RX2) (T := TX2) (N := 5) hC hS hk21 rfl rfl (c_X2_minutes l G ks ad w2 j20 V22 _ h _) (gI wq_639 wq_281 wq_282 wq_59 wq_283) rfl ⟨⟨by decide +kernel, by decide +kernel, by decide +kernel⟩, rfl, rfl, Nat.le_of_ble_eq_true rfl, Nat.le_of_ble_eq_true rfl⟩ rfl hl rfl (Nat.le_of_ble_eq_true rfl) dX6_measure_66 ⟨Nat.le_of_ble_eq_true rfl, Nat.le_of_ble_eq_true rfl⟩) (fun r26 V25 H locs h hS => ?_)
          obtain ⟨hk28, h⟩ := h
          refine g_callv0 hS (g_runV (n := 3) (rest := []) (As := [.int (V22 5 w2 j20 0 0), .int (V22 5 w2 j20 1 0), .int r26]) (C := RX6) (T := TX6) (N := 1) hC hS hk28 rfl rfl (c_X6_shorten l G ks ad w (V22 5 w2 j20 0 0) (V22 5 w2 j20 1 0) r26 V25 _ h _) (gI wq_640 wq_642 wq_11 wq_44 wq_643) rfl ⟨⟨by decide +kernel, by decide +kernel, by decide +kernel⟩, rfl, rfl, Nat.le_of_ble_eq_true rfl, Nat.le_of_ble_eq_true rfl⟩ rfl hl rfl (Nat.le_of_ble_eq_true rfl) dX6_measure_69 ⟨Nat.le_of_ble_eq_true rfl, Nat.le_of_ble_eq_true rfl⟩) (fun V27 H locs h hS => ?_)
          obtain ⟨y29, ey29⟩ : ∃ z : Int32, z = x3 + 1 := ⟨_, rfl⟩
          have h := h y29 ey29
          refine lv_iinc (v := y29) (lv' := [(3, .int y29), (4, .ref (ad 5 w2 j20)), (0, .ref (ad 10 w 0)), (1, .int x1), (2, .ref (ad 2 w2 1))]) hC.1 hC.2.1 dX6_measure_72 hl (k := 4) rfl (by rw [ey29]; rfl) (by decide) rfl (fun ls hl => ?_)
          refine lv_goto (tgt := 27) hC.1 hC.2.1 dX6_measure_75 (by decide) ?_
          exact kB27 _ _ _ _ _ h hS (lv_sub hl [2, 3, 4, 0] rfl)
  have kT2 : ∀ (x1 : Int32) (x3 : Int32) (V : VS) (H : Heap) (locs : List Loc) (ls : Array Slot), wl_X6_measure_2 ks w w2 a1 post x1 x3 V → ST G ks ad V (mA ks ad sz) s.heap H locs → lv_has ls 7 [(0, .ref (ad 10 w 0)), (1, .int x1), (2, .ref (ad 2 w2 1)), (3, .int x3)] → W p l e ({ frames := 3, cells := 0, slots := 0, locals := 64 } : Room) s m args below meth c H locs 0 0 (MQ below (mQv post G ks ad sz) args s 0 0 (mA ks ad sz)) (F0 m 2 ls []) := by
    intro x1 x3 V H locs ls h hS hl
    obtain ⟨J, ⟨n, hJ⟩, hb⟩ := h
    induction n using Nat.strongRecOn generalizing x3 V H locs ls with
    | _ n ih =>
      have h := hb n x3 V hJ
      obtain ⟨B2, eB⟩ : ∃ z : Int32 → VS → Prop, z = (fun x3 V => ∃ n', n' < n ∧ J n' x3 V) := ⟨_, rfl⟩
      rw [← eB] at h
      have kB2 : ∀ (x3 : Int32) (V : VS) (H : Heap) (locs : List Loc) (ls : Array Slot), B2 x3 V → ST G ks ad V (mA ks ad sz) s.heap H locs → lv_has ls 7 [(0, .ref (ad 10 w 0)), (1, .int x1), (2, .ref (ad 2 w2 1)), (3, .int x3)] → W p l e ({ frames := 3, cells := 0, slots := 0, locals := 64 } : Room) s m args below meth c H locs 0 0 (MQ below (mQv post G ks ad sz) args s 0 0 (mA ks ad sz)) (F0 m 2 ls []) := by
        intro x3 V H locs ls h hS hl
        rw [eB] at h
        obtain ⟨n', hn, hJ'⟩ := h
        exact ih n' hn _ _ _ _ _ hS hl hJ'
      clear ih hJ hb eB
      unfold wk_X6_measure_2 at h
      refine lv_iload_n hC.1 hC.2.1 dX6_measure_2 rfl (lv_at hl 3 rfl) ?_
      refine lv_aload_n hC.1 hC.2.1 dX6_measure_3 rfl (lv_at hl 0 rfl) ?_
      obtain ⟨hk32, h⟩ := h
      refine gf_10_0 hC hS hk32 wq_112 dX6_measure_4 ?_
      obtain ⟨hk33, h⟩ := h
      refine g_alen hC hS hk33 (by decide) dX6_measure_7 ?_
      refine W.eq (g2 := F0 m 8 ls [.int 64, .int x3]) rfl ?_
      refine lv_icmp_ge (tgt := 25) hC.1 hC.2.1 dX6_measure_8 (by decide) (fun c37 => ?_) (fun c37 => ?_)
      · have h := h.1 c37
        refine lv_iconst (v := 0) hC.1 hC.2.1 dX6_measure_25 (by decide) ?_
        refine lv_istore_n (lv' := [(3, .int 0), (0, .ref (ad 10 w 0)), (1, .int x1), (2, .ref (ad 2 w2 1))]) hC.1 hC.2.1 dX6_measure_26 rfl hl (by decide) rfl (fun ls hl => ?_)
        exact kT27 _ _ _ _ _ _ h hS (lv_sub hl [1, 2, 3, 0] rfl)
      · have h := h.2 c37
        refine lv_aload_n hC.1 hC.2.1 dX6_measure_11 rfl (lv_at hl 0 rfl) ?_
        refine gf_10_0 hC hS hk32 wq_112 dX6_measure_12 ?_
        refine lv_iload_n hC.1 hC.2.1 dX6_measure_15 rfl (lv_at hl 3 rfl) ?_
        refine lv_ldc hC.1 hC.2.1 hC.2.2.2.1 (hC.2.2.2.2.1 _ wq_634) dX6_measure_16 ?_
        obtain ⟨hx34, h⟩ := h
        refine g_iast hC hS hk33 (by decide) hx34 dX6_measure_18 (fun H locs hS => ?_)
        obtain ⟨V35, eV35⟩ : ∃ z : VS, z = vup V 11 w 0 0 x3.toNatClampNeg 1000000 := ⟨_, rfl⟩
        rw [← eV35] at hS
        have h := h V35 eV35
        obtain ⟨y36, ey36⟩ : ∃ z : Int32, z = x3 + 1 := ⟨_, rfl⟩
        have h := h y36 ey36
        refine lv_iinc (v := y36) (lv' := [(3, .int y36), (0, .ref (ad 10 w 0)), (1, .int x1), (2, .ref (ad 2 w2 1))]) hC.1 hC.2.1 dX6_measure_19 hl (k := 3) rfl (by rw [ey36]; rfl) (by decide) rfl (fun ls hl => ?_)
        refine lv_goto (tgt := 2) hC.1 hC.2.1 dX6_measure_22 (by decide) ?_
        exact kB2 _ _ _ _ _ h hS (lv_sub hl [1, 2, 3, 0] rfl)
  refine lv_iconst (v := 0) hC.1 hC.2.1 dX6_measure_0 (by decide) ?_
  refine lv_istore_n (lv' := [(3, .int 0), (0, .ref (ad 10 w 0)), (1, .int a1), (2, .ref (ad 2 w2 1))]) hC.1 hC.2.1 dX6_measure_1 rfl hl (by decide) rfl (fun ls hl => ?_)
  exact kT2 _ _ _ _ _ _ h hS (lv_sub hl [1, 2, 3, 0] rfl)
def wp_X3_copyFrom (ks : List KY) (w i w1 i1 : Nat) (V : VS) (post : VS → Prop) : Prop := ((8, w1, i1) ∈ ks ∧ (8, w, i) ∈ ks ∧ wp_X8_copyRow ks 9 w1 i1 9 w i V (fun V3 => (∀ V4 : VS, V4 = vup V3 8 w i 1 0 (V3 8 w1 i1 1 0) → post V4)))
set_option maxHeartbeats 4000000 in
set_option maxRecDepth 100000 in
theorem c_X3_copyFrom (l : Launch) (G : GG) (ks : List KY) (ad : AD) (w : Nat) (i : Nat) (w1 : Nat) (i1 : Nat) (V : VS) (post : VS → Prop) (h : wp_X3_copyFrom ks w i w1 i1 V post) (sz : Nat) : Met l yX3_copyFrom (ws_ yX3_copyFrom cX3_copyFrom 2 none) ({ frames := 1, cells := 0, slots := 0, locals := 22 }) (mPc [.ref (ad 8 w i), .ref (ad 8 w1 i1)] G ks ad V sz) (mQv post G ks ad sz) 0 0 (mA ks ad sz) := by
  refine g_met (own := RX3) (by decide) rfl (Nat.le_of_ble_eq_true rfl) ?_
  intro p e s m args below meth c ls hC hsz hr hlk hin hS ha hl
  have hl : lv_has ls 2 [(0, .ref (ad 8 w i)), (1, .ref (ad 8 w1 i1))] := hl
  unfold wp_X3_copyFrom at h
  refine lv_aload_n hC.1 hC.2.1 dX3_copyFrom_0 rfl (lv_at hl 1 rfl) ?_
  obtain ⟨hk1, h⟩ := h
  refine gf_8_0 hC hS hk1 wq_671 dX3_copyFrom_1 ?_
  refine lv_aload_n hC.1 hC.2.1 dX3_copyFrom_4 rfl (lv_at hl 0 rfl) ?_
  obtain ⟨hk2, h⟩ := h
  refine gf_8_0 hC hS hk2 wq_671 dX3_copyFrom_5 ?_
  refine g_callv0 hS (g_runSN (n := 2) (rest := []) (As := [.ref (ad 9 w1 i1), .ref (ad 9 w i)]) hC hS (c_X8_copyRow l G ks ad 9 w1 i1 9 w i V _ h _) wq_921 wq_922 wq_39 wq_923 ⟨⟨by decide +kernel, by decide +kernel, by decide +kernel⟩, rfl, rfl, Nat.le_of_ble_eq_true rfl, Nat.le_of_ble_eq_true rfl⟩ rfl hl rfl (Nat.le_of_ble_eq_true rfl) dX3_copyFrom_8 ⟨Nat.le_of_ble_eq_true rfl, Nat.le_of_ble_eq_true rfl⟩) (fun V3 H locs h hS => ?_)
  refine lv_aload_n hC.1 hC.2.1 dX3_copyFrom_11 rfl (lv_at hl 0 rfl) ?_
  refine lv_aload_n hC.1 hC.2.1 dX3_copyFrom_12 rfl (lv_at hl 1 rfl) ?_
  refine gf_8_1 hC hS hk1 wq_672 dX3_copyFrom_13 ?_
  refine pf_8_1 hC hS hk2 wq_672 dX3_copyFrom_16 (fun H locs hS => ?_)
  obtain ⟨V4, eV4⟩ : ∃ z : VS, z = vup V3 8 w i 1 0 (V3 8 w1 i1 1 0) := ⟨_, rfl⟩
  rw [← eV4] at hS
  have h := h V4 eV4
  exact g_vret hC hr hlk hS h dX3_copyFrom_19
def wb_X5_tellAnew_38 (ks : List KY) (w : Nat) (a1 : Int32) (a2 : Int32) (post : VS → Prop) (B13 : Int32 → VS → Prop) (x1 : Int32) (x3 : Int32) (V : VS) : Prop := (∀ y1 : Int32, y1 = x3 / 10 → B13 y1 V)
def wk_X5_tellAnew_13 (ks : List KY) (w : Nat) (a1 : Int32) (a2 : Int32) (post : VS → Prop) (B13 : Int32 → VS → Prop) (x1 : Int32) (x3 : Int32) (V : VS) : Prop := ((x3 ≤ 0 → (post V)) ∧ (¬ (x3 ≤ 0) → ((¬ x3 = 0) ∧ ∀ y3 : Int32, y3 = (x1 / x3) - (x1 / x3) / 10 * 10 → (y3 ≤ 0 → wb_X5_tellAnew_38 ks w a1 a2 post B13 x1 x3 V) ∧ (¬ (y3 ≤ 0) → ((12, w, 0) ∈ ks ∧ wp_X5_append ks w (y3 - 1) V (fun V4 => wb_X5_tellAnew_38 ks w a1 a2 post B13 x1 x3 V4))))))
def wl_X5_tellAnew_13 (ks : List KY) (w : Nat) (a1 : Int32) (a2 : Int32) (post : VS → Prop) (x1 : Int32) (x3 : Int32) (V : VS) : Prop := ∃ J : Nat → Int32 → VS → Prop, (∃ n, J n x3 V) ∧ ∀ (n : Nat) (x3 : Int32) (V : VS), J n x3 V → wk_X5_tellAnew_13 ks w a1 a2 post (fun x3 V => ∃ n', n' < n ∧ J n' x3 V) x1 x3 V
def wp_X5_tellAnew (ks : List KY) (w : Nat) (a1 : Int32) (a2 : Int32) (V : VS) (post : VS → Prop) : Prop := ((12, w, 0) ∈ ks ∧ ∀ V9 : VS, V9 = vup V 12 w 0 2 0 a2 → ∀ V10 : VS, V10 = vup V9 12 w 0 1 0 0 → wl_X5_tellAnew_13 ks w a1 a2 post a1 10000000 V10)
set_option maxHeartbeats 4000000 in
set_option maxRecDepth 100000 in
theorem c_X5_tellAnew (l : Launch) (G : GG) (ks : List KY) (ad : AD) (w : Nat) (a1 : Int32) (a2 : Int32) (V : VS) (post : VS → Prop) (h : wp_X5_tellAnew ks w a1 a2 V post) (sz : Nat) : Met l yX5_tellAnew (ws_ yX5_tellAnew cX5_tellAnew 5 none) ({ frames := 1, cells := 0, slots := 0, locals := 21 }) (mPc [.ref (ad 12 w 0), .int a1, .int a2] G ks ad V sz) (mQv post G ks ad sz) 0 0 (mA ks ad sz) := by
  refine g_met (own := RX5) (by decide) rfl (Nat.le_of_ble_eq_true rfl) ?_
  intro p e s m args below meth c ls hC hsz hr hlk hin hS ha hl
  have hl : lv_has ls 5 [(0, .ref (ad 12 w 0)), (1, .int a1), (2, .int a2)] := hl
  unfold wp_X5_tellAnew at h
  have kT13 : ∀ (x1 : Int32) (x3 : Int32) (V : VS) (H : Heap) (locs : List Loc) (ls : Array Slot), wl_X5_tellAnew_13 ks w a1 a2 post x1 x3 V → ST G ks ad V (mA ks ad sz) s.heap H locs → lv_has ls 5 [(0, .ref (ad 12 w 0)), (1, .int x1), (3, .int x3)] → W p l e ({ frames := 1, cells := 0, slots := 0, locals := 21 } : Room) s m args below meth c H locs 0 0 (MQ below (mQv post G ks ad sz) args s 0 0 (mA ks ad sz)) (F0 m 13 ls []) := by
    intro x1 x3 V H locs ls h hS hl
    obtain ⟨J, ⟨n, hJ⟩, hb⟩ := h
    induction n using Nat.strongRecOn generalizing x3 V H locs ls with
    | _ n ih =>
      have h := hb n x3 V hJ
      obtain ⟨B13, eB⟩ : ∃ z : Int32 → VS → Prop, z = (fun x3 V => ∃ n', n' < n ∧ J n' x3 V) := ⟨_, rfl⟩
      rw [← eB] at h
      have kB13 : ∀ (x3 : Int32) (V : VS) (H : Heap) (locs : List Loc) (ls : Array Slot), B13 x3 V → ST G ks ad V (mA ks ad sz) s.heap H locs → lv_has ls 5 [(0, .ref (ad 12 w 0)), (1, .int x1), (3, .int x3)] → W p l e ({ frames := 1, cells := 0, slots := 0, locals := 21 } : Room) s m args below meth c H locs 0 0 (MQ below (mQv post G ks ad sz) args s 0 0 (mA ks ad sz)) (F0 m 13 ls []) := by
        intro x3 V H locs ls h hS hl
        rw [eB] at h
        obtain ⟨n', hn, hJ'⟩ := h
        exact ih n' hn _ _ _ _ _ hS hl hJ'
      clear ih hJ hb eB
      unfold wk_X5_tellAnew_13 at h
      have kT38 : ∀ (x3 : Int32) (V : VS) (H : Heap) (locs : List Loc) (ls : Array Slot), wb_X5_tellAnew_38 ks w a1 a2 post B13 x1 x3 V → ST G ks ad V (mA ks ad sz) s.heap H locs → lv_has ls 5 [(0, .ref (ad 12 w 0)), (1, .int x1), (3, .int x3)] → W p l e ({ frames := 1, cells := 0, slots := 0, locals := 21 } : Room) s m args below meth c H locs 0 0 (MQ below (mQv post G ks ad sz) args s 0 0 (mA ks ad sz)) (F0 m 38 ls []) := by
        intro x3 V H locs ls h hS hl
        unfold wb_X5_tellAnew_38 at h
        refine lv_iload_n hC.1 hC.2.1 dX5_tellAnew_38 rfl (lv_at hl 2 rfl) ?_
        refine lv_bipush (v := 10) hC.1 hC.2.1 dX5_tellAnew_39 (by decide) ?_
        refine lv_idiv hC.1 hC.2.1 dX5_tellAnew_41 (by decide) ?_
        refine lv_topi (fun y1 ey1 => ?_)
        have h := h y1 ey1
        refine lv_istore_n (lv' := [(3, .int y1), (0, .ref (ad 12 w 0)), (1, .int x1)]) hC.1 hC.2.1 dX5_tellAnew_42 rfl hl (by decide) rfl (fun ls hl => ?_)
        refine lv_goto (tgt := 13) hC.1 hC.2.1 dX5_tellAnew_43 (by decide) ?_
        exact kB13 _ _ _ _ _ h hS (lv_sub hl [1, 2, 0] rfl)
      refine lv_iload_n hC.1 hC.2.1 dX5_tellAnew_13 rfl (lv_at hl 2 rfl) ?_
      refine lv_if_le (tgt := 46) hC.1 hC.2.1 dX5_tellAnew_14 (by decide) (fun c7 => ?_) (fun c7 => ?_)
      · have h := h.1 c7
        exact g_vret hC hr hlk hS h dX5_tellAnew_46
      · have h := h.2 c7
        refine lv_iload_n hC.1 hC.2.1 dX5_tellAnew_17 rfl (lv_at hl 1 rfl) ?_
        refine lv_iload_n hC.1 hC.2.1 dX5_tellAnew_18 rfl (lv_at hl 2 rfl) ?_
        obtain ⟨hz2, h⟩ := h
        refine lv_idiv hC.1 hC.2.1 dX5_tellAnew_19 hz2 ?_
        refine lv_bipush (v := 10) hC.1 hC.2.1 dX5_tellAnew_20 (by decide) ?_
        refine lv_irem hC.1 hC.2.1 dX5_tellAnew_22 (by decide) ?_
        refine lv_topi (fun y3 ey3 => ?_)
        have h := h y3 ey3
        refine lv_istore (lv' := [(4, .int y3), (0, .ref (ad 12 w 0)), (1, .int x1), (3, .int x3)]) hC.1 hC.2.1 dX5_tellAnew_23 hl (by decide) rfl (fun ls hl => ?_)
        refine lv_iload hC.1 hC.2.1 dX5_tellAnew_25 (lv_at hl 0 rfl) ?_
        refine lv_if_le (tgt := 38) hC.1 hC.2.1 dX5_tellAnew_27 (by decide) (fun c6 => ?_) (fun c6 => ?_)
        · have h := h.1 c6
          exact kT38 _ _ _ _ _ h hS (lv_sub hl [1, 2, 3] rfl)
        · have h := h.2 c6
          refine lv_aload_n hC.1 hC.2.1 dX5_tellAnew_30 rfl (lv_at hl 1 rfl) ?_
          refine lv_iload hC.1 hC.2.1 dX5_tellAnew_31 (lv_at hl 0 rfl) ?_
          refine lv_iconst (v := 1) hC.1 hC.2.1 dX5_tellAnew_33 (by decide) ?_
          refine lv_isub hC.1 hC.2.1 dX5_tellAnew_34 ?_
          obtain ⟨hk5, h⟩ := h
          refine g_callv0 hS (g_runV (n := 1) (rest := []) (As := [.int (y3 - 1)]) (C := RX5) (T := TX5) (N := 3) hC hS hk5 rfl rfl (c_X5_append l G ks ad w (y3 - 1) V _ h _) (gI wq_598 wq_599 wq_600 wq_45 wq_601) rfl ⟨⟨by decide +kernel, by decide +kernel, by decide +kernel⟩, rfl, rfl, Nat.le_of_ble_eq_true rfl, Nat.le_of_ble_eq_true rfl⟩ rfl hl rfl (Nat.le_of_ble_eq_true rfl) dX5_tellAnew_35 ⟨Nat.le_of_ble_eq_true rfl, Nat.le_of_ble_eq_true rfl⟩) (fun V4 H locs h hS => ?_)
          exact kT38 _ _ _ _ _ h hS (lv_sub hl [1, 2, 3] rfl)
  refine lv_aload_n hC.1 hC.2.1 dX5_tellAnew_0 rfl (lv_at hl 0 rfl) ?_
  refine lv_iload_n hC.1 hC.2.1 dX5_tellAnew_1 rfl (lv_at hl 2 rfl) ?_
  obtain ⟨hk8, h⟩ := h
  refine pf_12_2 hC hS hk8 wq_125 dX5_tellAnew_2 (fun H locs hS => ?_)
  obtain ⟨V9, eV9⟩ : ∃ z : VS, z = vup V 12 w 0 2 0 a2 := ⟨_, rfl⟩
  rw [← eV9] at hS
  have h := h V9 eV9
  refine lv_aload_n hC.1 hC.2.1 dX5_tellAnew_5 rfl (lv_at hl 0 rfl) ?_
  refine lv_iconst (v := 0) hC.1 hC.2.1 dX5_tellAnew_6 (by decide) ?_
  refine pf_12_1 hC hS hk8 wq_124 dX5_tellAnew_7 (fun H locs hS => ?_)
  obtain ⟨V10, eV10⟩ : ∃ z : VS, z = vup V9 12 w 0 1 0 0 := ⟨_, rfl⟩
  rw [← eV10] at hS
  have h := h V10 eV10
  refine lv_ldc hC.1 hC.2.1 hC.2.2.2.1 (hC.2.2.2.2.1 _ wq_597) dX5_tellAnew_10 ?_
  refine lv_istore_n (lv' := [(3, .int 10000000), (0, .ref (ad 12 w 0)), (1, .int a1), (2, .int a2)]) hC.1 hC.2.1 dX5_tellAnew_12 rfl hl (by decide) rfl (fun ls hl => ?_)
  exact kT13 _ _ _ _ _ _ h hS (lv_sub hl [1, 2, 0] rfl)
def wp_X5_copyFrom (ks : List KY) (w w1 : Nat) (V : VS) (post : VS → Prop) : Prop := ((12, w1, 0) ∈ ks ∧ (12, w, 0) ∈ ks ∧ wp_X8_copyRow ks 13 w1 0 13 w 0 V (fun V3 => (∀ V4 : VS, V4 = vup V3 12 w 0 1 0 (V3 12 w1 0 1 0) → ∀ V5 : VS, V5 = vup V4 12 w 0 2 0 (V4 12 w1 0 2 0) → post V5)))
set_option maxHeartbeats 4000000 in
set_option maxRecDepth 100000 in
theorem c_X5_copyFrom (l : Launch) (G : GG) (ks : List KY) (ad : AD) (w : Nat) (w1 : Nat) (V : VS) (post : VS → Prop) (h : wp_X5_copyFrom ks w w1 V post) (sz : Nat) : Met l yX5_copyFrom (ws_ yX5_copyFrom cX5_copyFrom 2 none) ({ frames := 1, cells := 0, slots := 0, locals := 22 }) (mPc [.ref (ad 12 w 0), .ref (ad 12 w1 0)] G ks ad V sz) (mQv post G ks ad sz) 0 0 (mA ks ad sz) := by
  refine g_met (own := RX5) (by decide) rfl (Nat.le_of_ble_eq_true rfl) ?_
  intro p e s m args below meth c ls hC hsz hr hlk hin hS ha hl
  have hl : lv_has ls 2 [(0, .ref (ad 12 w 0)), (1, .ref (ad 12 w1 0))] := hl
  unfold wp_X5_copyFrom at h
  refine lv_aload_n hC.1 hC.2.1 dX5_copyFrom_0 rfl (lv_at hl 1 rfl) ?_
  obtain ⟨hk1, h⟩ := h
  refine gf_12_0 hC hS hk1 wq_123 dX5_copyFrom_1 ?_
  refine lv_aload_n hC.1 hC.2.1 dX5_copyFrom_4 rfl (lv_at hl 0 rfl) ?_
  obtain ⟨hk2, h⟩ := h
  refine gf_12_0 hC hS hk2 wq_123 dX5_copyFrom_5 ?_
  refine g_callv0 hS (g_runSN (n := 2) (rest := []) (As := [.ref (ad 13 w1 0), .ref (ad 13 w 0)]) hC hS (c_X8_copyRow l G ks ad 13 w1 0 13 w 0 V _ h _) wq_932 wq_922 wq_39 wq_923 ⟨⟨by decide +kernel, by decide +kernel, by decide +kernel⟩, rfl, rfl, Nat.le_of_ble_eq_true rfl, Nat.le_of_ble_eq_true rfl⟩ rfl hl rfl (Nat.le_of_ble_eq_true rfl) dX5_copyFrom_8 ⟨Nat.le_of_ble_eq_true rfl, Nat.le_of_ble_eq_true rfl⟩) (fun V3 H locs h hS => ?_)
  refine lv_aload_n hC.1 hC.2.1 dX5_copyFrom_11 rfl (lv_at hl 0 rfl) ?_
  refine lv_aload_n hC.1 hC.2.1 dX5_copyFrom_12 rfl (lv_at hl 1 rfl) ?_
  refine gf_12_1 hC hS hk1 wq_124 dX5_copyFrom_13 ?_
  refine pf_12_1 hC hS hk2 wq_124 dX5_copyFrom_16 (fun H locs hS => ?_)
  obtain ⟨V4, eV4⟩ : ∃ z : VS, z = vup V3 12 w 0 1 0 (V3 12 w1 0 1 0) := ⟨_, rfl⟩
  rw [← eV4] at hS
  have h := h V4 eV4
  refine lv_aload_n hC.1 hC.2.1 dX5_copyFrom_19 rfl (lv_at hl 0 rfl) ?_
  refine lv_aload_n hC.1 hC.2.1 dX5_copyFrom_20 rfl (lv_at hl 1 rfl) ?_
  refine gf_12_2 hC hS hk1 wq_125 dX5_copyFrom_21 ?_
  refine pf_12_2 hC hS hk2 wq_125 dX5_copyFrom_24 (fun H locs hS => ?_)
  obtain ⟨V5, eV5⟩ : ∃ z : VS, z = vup V4 12 w 0 2 0 (V4 12 w1 0 2 0) := ⟨_, rfl⟩
  rw [← eV5] at hS
  have h := h V5 eV5
  exact g_vret hC hr hlk hS h dX5_copyFrom_27
def wp_X0_isOnVan (ks : List KY) (w i : Nat) (V : VS) (post : Int32 → VS → Prop) : Prop := ((6, w, i) ∈ ks ∧ ((V 6 w i 3 0) = (-1) → (post 1 V)) ∧ (¬ ((V 6 w i 3 0) = (-1)) → (post 0 V)))
set_option maxHeartbeats 4000000 in
set_option maxRecDepth 100000 in
theorem c_X0_isOnVan (l : Launch) (G : GG) (ks : List KY) (ad : AD) (w : Nat) (i : Nat) (V : VS) (post : Int32 → VS → Prop) (h : wp_X0_isOnVan ks w i V post) (sz : Nat) : Met l yX0_isOnVan (ws_ yX0_isOnVan cX0_isOnVan 1 (some .boolean)) ({ frames := 0, cells := 0, slots := 0, locals := 0 }) (mPc [.ref (ad 6 w i)] G ks ad V sz) (mQi post G ks ad sz) 0 0 (mA ks ad sz) := by
  refine g_met (own := RX0) (by decide) rfl (Nat.le_of_ble_eq_true rfl) ?_
  intro p e s m args below meth c ls hC hsz hr hlk hin hS ha hl
  have hl : lv_has ls 1 [(0, .ref (ad 6 w i))] := hl
  unfold wp_X0_isOnVan at h
  refine lv_aload_n hC.1 hC.2.1 dX0_isOnVan_0 rfl (lv_at hl 0 rfl) ?_
  obtain ⟨hk1, h⟩ := h
  refine gf_6_3 hC hS hk1 wq_685 dX0_isOnVan_1 ?_
  refine lv_iconst (v := (-1)) hC.1 hC.2.1 dX0_isOnVan_4 (by decide) ?_
  refine lv_icmp_ne (tgt := 12) hC.1 hC.2.1 dX0_isOnVan_5 (by decide) (fun c2 => ?_) (fun c2 => ?_)
  · have h := h.2 c2
    refine lv_iconst (v := 0) hC.1 hC.2.1 dX0_isOnVan_12 (by decide) ?_
    exact g_zret hC hr hlk hS (by decide) h dX0_isOnVan_13
  · have h := h.1 c2
    refine lv_iconst (v := 1) hC.1 hC.2.1 dX0_isOnVan_8 (by decide) ?_
    refine lv_goto (tgt := 13) hC.1 hC.2.1 dX0_isOnVan_9 (by decide) ?_
    exact g_zret hC hr hlk hS (by decide) h dX0_isOnVan_13
def wp_X0_lendTo (ks : List KY) (w i w1 i1 : Nat) (a2 : Int32) (V : VS) (post : VS → Prop) : Prop := ((7, w1, i1) ∈ ks ∧ (6, w, i) ∈ ks ∧ ∀ V3 : VS, V3 = vup V 6 w i 3 0 (V 7 w1 i1 0 0) → ∀ V4 : VS, V4 = vup V3 6 w i 4 0 a2 → ∀ V5 : VS, V5 = vup V4 6 w i 5 0 ((V4 6 w i 5 0) + 1) → ∀ V6 : VS, V6 = vup V5 7 w1 i1 4 0 ((V5 7 w1 i1 4 0) + 1) → ∀ V7 : VS, V7 = vup V6 7 w1 i1 5 0 ((V6 7 w1 i1 5 0) ||| (1 <<< ((V6 6 w i 0 0) &&& 31))) → ∀ V8 : VS, V8 = vup V7 7 w1 i1 7 0 ((V7 7 w1 i1 7 0) + 1) → post V8)
set_option maxHeartbeats 4000000 in
set_option maxRecDepth 100000 in
theorem c_X0_lendTo (l : Launch) (G : GG) (ks : List KY) (ad : AD) (w : Nat) (i : Nat) (w1 : Nat) (i1 : Nat) (a2 : Int32) (V : VS) (post : VS → Prop) (h : wp_X0_lendTo ks w i w1 i1 a2 V post) (sz : Nat) : Met l yX0_lendTo (ws_ yX0_lendTo cX0_lendTo 3 none) ({ frames := 0, cells := 0, slots := 0, locals := 0 }) (mPc [.ref (ad 6 w i), .ref (ad 7 w1 i1), .int a2] G ks ad V sz) (mQv post G ks ad sz) 0 0 (mA ks ad sz) := by
  refine g_met (own := RX0) (by decide) rfl (Nat.le_of_ble_eq_true rfl) ?_
  intro p e s m args below meth c ls hC hsz hr hlk hin hS ha hl
  have hl : lv_has ls 3 [(0, .ref (ad 6 w i)), (1, .ref (ad 7 w1 i1)), (2, .int a2)] := hl
  unfold wp_X0_lendTo at h
  refine lv_aload_n hC.1 hC.2.1 dX0_lendTo_0 rfl (lv_at hl 0 rfl) ?_
  refine lv_aload_n hC.1 hC.2.1 dX0_lendTo_1 rfl (lv_at hl 1 rfl) ?_
  obtain ⟨hk1, h⟩ := h
  refine gn_7_0 hC hS hk1 wq_721 dX0_lendTo_2 ?_
  obtain ⟨hk2, h⟩ := h
  refine pf_6_3 hC hS hk2 wq_685 dX0_lendTo_5 (fun H locs hS => ?_)
  obtain ⟨V3, eV3⟩ : ∃ z : VS, z = vup V 6 w i 3 0 (V 7 w1 i1 0 0) := ⟨_, rfl⟩
  rw [← eV3] at hS
  have h := h V3 eV3
  refine lv_aload_n hC.1 hC.2.1 dX0_lendTo_8 rfl (lv_at hl 0 rfl) ?_
  refine lv_iload_n hC.1 hC.2.1 dX0_lendTo_9 rfl (lv_at hl 2 rfl) ?_
  refine pf_6_4 hC hS hk2 wq_688 dX0_lendTo_10 (fun H locs hS => ?_)
  obtain ⟨V4, eV4⟩ : ∃ z : VS, z = vup V3 6 w i 4 0 a2 := ⟨_, rfl⟩
  rw [← eV4] at hS
  have h := h V4 eV4
  refine lv_aload_n hC.1 hC.2.1 dX0_lendTo_13 rfl (lv_at hl 0 rfl) ?_
  refine lv_dup hC.1 hC.2.1 dX0_lendTo_14 rfl ?_
  refine gf_6_5 hC hS hk2 wq_690 dX0_lendTo_15 ?_
  refine lv_iconst (v := 1) hC.1 hC.2.1 dX0_lendTo_18 (by decide) ?_
  refine lv_iadd hC.1 hC.2.1 dX0_lendTo_19 ?_
  refine pf_6_5 hC hS hk2 wq_690 dX0_lendTo_20 (fun H locs hS => ?_)
  obtain ⟨V5, eV5⟩ : ∃ z : VS, z = vup V4 6 w i 5 0 ((V4 6 w i 5 0) + 1) := ⟨_, rfl⟩
  rw [← eV5] at hS
  have h := h V5 eV5
  refine lv_aload_n hC.1 hC.2.1 dX0_lendTo_23 rfl (lv_at hl 1 rfl) ?_
  refine lv_dup hC.1 hC.2.1 dX0_lendTo_24 rfl ?_
  refine gn_7_4 hC hS hk1 wq_729 dX0_lendTo_25 ?_
  refine lv_iconst (v := 1) hC.1 hC.2.1 dX0_lendTo_28 (by decide) ?_
  refine lv_iadd hC.1 hC.2.1 dX0_lendTo_29 ?_
  refine pn_7_4 hC hS hk1 wq_729 dX0_lendTo_30 (fun H locs hS => ?_)
  obtain ⟨V6, eV6⟩ : ∃ z : VS, z = vup V5 7 w1 i1 4 0 ((V5 7 w1 i1 4 0) + 1) := ⟨_, rfl⟩
  rw [← eV6] at hS
  have h := h V6 eV6
  refine lv_aload_n hC.1 hC.2.1 dX0_lendTo_33 rfl (lv_at hl 1 rfl) ?_
  refine lv_dup hC.1 hC.2.1 dX0_lendTo_34 rfl ?_
  refine gn_7_5 hC hS hk1 wq_732 dX0_lendTo_35 ?_
  refine lv_iconst (v := 1) hC.1 hC.2.1 dX0_lendTo_38 (by decide) ?_
  refine lv_aload_n hC.1 hC.2.1 dX0_lendTo_39 rfl (lv_at hl 0 rfl) ?_
  refine gf_6_0 hC hS hk2 wq_678 dX0_lendTo_40 ?_
  refine lv_ishl hC.1 hC.2.1 dX0_lendTo_43 ?_
  refine lv_ior hC.1 hC.2.1 dX0_lendTo_44 ?_
  refine pn_7_5 hC hS hk1 wq_732 dX0_lendTo_45 (fun H locs hS => ?_)
  obtain ⟨V7, eV7⟩ : ∃ z : VS, z = vup V6 7 w1 i1 5 0 ((V6 7 w1 i1 5 0) ||| (1 <<< ((V6 6 w i 0 0) &&& 31))) := ⟨_, rfl⟩
  rw [← eV7] at hS
  have h := h V7 eV7
  refine lv_aload_n hC.1 hC.2.1 dX0_lendTo_48 rfl (lv_at hl 1 rfl) ?_
  refine lv_dup hC.1 hC.2.1 dX0_lendTo_49 rfl ?_
  refine gn_7_7 hC hS hk1 wq_738 dX0_lendTo_50 ?_
  refine lv_iconst (v := 1) hC.1 hC.2.1 dX0_lendTo_53 (by decide) ?_
  refine lv_iadd hC.1 hC.2.1 dX0_lendTo_54 ?_
  refine pn_7_7 hC hS hk1 wq_738 dX0_lendTo_55 (fun H locs hS => ?_)
  obtain ⟨V8, eV8⟩ : ∃ z : VS, z = vup V7 7 w1 i1 7 0 ((V7 7 w1 i1 7 0) + 1) := ⟨_, rfl⟩
  rw [← eV8] at hS
  have h := h V8 eV8
  exact g_vret hC hr hlk hS h dX0_lendTo_58
def wp_X0_comeBackFrom (ks : List KY) (w i w1 i1 : Nat) (a2 : Int32) (V : VS) (post : VS → Prop) : Prop := ((6, w, i) ∈ ks ∧ ∀ V2 : VS, V2 = vup V 6 w i 3 0 (-1) → ∀ V3 : VS, V3 = vup V2 6 w i 4 0 (-1) → (7, w1, i1) ∈ ks ∧ ∀ V5 : VS, V5 = vup V3 7 w1 i1 4 0 ((V3 7 w1 i1 4 0) - 1) → (a2 ≤ 14 → (post V5)) ∧ (¬ (a2 ≤ 14) → (∀ V6 : VS, V6 = vup V5 7 w1 i1 6 0 ((V5 7 w1 i1 6 0) + (a2 - 14)) → post V6)))
set_option maxHeartbeats 4000000 in
set_option maxRecDepth 100000 in
theorem c_X0_comeBackFrom (l : Launch) (G : GG) (ks : List KY) (ad : AD) (w : Nat) (i : Nat) (w1 : Nat) (i1 : Nat) (a2 : Int32) (V : VS) (post : VS → Prop) (h : wp_X0_comeBackFrom ks w i w1 i1 a2 V post) (sz : Nat) : Met l yX0_comeBackFrom (ws_ yX0_comeBackFrom cX0_comeBackFrom 3 none) ({ frames := 0, cells := 0, slots := 0, locals := 0 }) (mPc [.ref (ad 6 w i), .ref (ad 7 w1 i1), .int a2] G ks ad V sz) (mQv post G ks ad sz) 0 0 (mA ks ad sz) := by
  refine g_met (own := RX0) (by decide) rfl (Nat.le_of_ble_eq_true rfl) ?_
  intro p e s m args below meth c ls hC hsz hr hlk hin hS ha hl
  have hl : lv_has ls 3 [(0, .ref (ad 6 w i)), (1, .ref (ad 7 w1 i1)), (2, .int a2)] := hl
  unfold wp_X0_comeBackFrom at h
  refine lv_aload_n hC.1 hC.2.1 dX0_comeBackFrom_0 rfl (lv_at hl 0 rfl) ?_
  refine lv_iconst (v := (-1)) hC.1 hC.2.1 dX0_comeBackFrom_1 (by decide) ?_
  obtain ⟨hk1, h⟩ := h
  refine pf_6_3 hC hS hk1 wq_685 dX0_comeBackFrom_2 (fun H locs hS => ?_)
  obtain ⟨V2, eV2⟩ : ∃ z : VS, z = vup V 6 w i 3 0 (-1) := ⟨_, rfl⟩
  rw [← eV2] at hS
  have h := h V2 eV2
  refine lv_aload_n hC.1 hC.2.1 dX0_comeBackFrom_5 rfl (lv_at hl 0 rfl) ?_
  refine lv_iconst (v := (-1)) hC.1 hC.2.1 dX0_comeBackFrom_6 (by decide) ?_
  refine pf_6_4 hC hS hk1 wq_688 dX0_comeBackFrom_7 (fun H locs hS => ?_)
  obtain ⟨V3, eV3⟩ : ∃ z : VS, z = vup V2 6 w i 4 0 (-1) := ⟨_, rfl⟩
  rw [← eV3] at hS
  have h := h V3 eV3
  refine lv_aload_n hC.1 hC.2.1 dX0_comeBackFrom_10 rfl (lv_at hl 1 rfl) ?_
  refine lv_dup hC.1 hC.2.1 dX0_comeBackFrom_11 rfl ?_
  obtain ⟨hk4, h⟩ := h
  refine gn_7_4 hC hS hk4 wq_729 dX0_comeBackFrom_12 ?_
  refine lv_iconst (v := 1) hC.1 hC.2.1 dX0_comeBackFrom_15 (by decide) ?_
  refine lv_isub hC.1 hC.2.1 dX0_comeBackFrom_16 ?_
  refine pn_7_4 hC hS hk4 wq_729 dX0_comeBackFrom_17 (fun H locs hS => ?_)
  obtain ⟨V5, eV5⟩ : ∃ z : VS, z = vup V3 7 w1 i1 4 0 ((V3 7 w1 i1 4 0) - 1) := ⟨_, rfl⟩
  rw [← eV5] at hS
  have h := h V5 eV5
  refine lv_iload_n hC.1 hC.2.1 dX0_comeBackFrom_20 rfl (lv_at hl 2 rfl) ?_
  refine lv_bipush (v := 14) hC.1 hC.2.1 dX0_comeBackFrom_21 (by decide) ?_
  refine lv_icmp_le (tgt := 39) hC.1 hC.2.1 dX0_comeBackFrom_23 (by decide) (fun c7 => ?_) (fun c7 => ?_)
  · have h := h.1 c7
    exact g_vret hC hr hlk hS h dX0_comeBackFrom_39
  · have h := h.2 c7
    refine lv_aload_n hC.1 hC.2.1 dX0_comeBackFrom_26 rfl (lv_at hl 1 rfl) ?_
    refine lv_dup hC.1 hC.2.1 dX0_comeBackFrom_27 rfl ?_
    refine gn_7_6 hC hS hk4 wq_735 dX0_comeBackFrom_28 ?_
    refine lv_iload_n hC.1 hC.2.1 dX0_comeBackFrom_31 rfl (lv_at hl 2 rfl) ?_
    refine lv_bipush (v := 14) hC.1 hC.2.1 dX0_comeBackFrom_32 (by decide) ?_
    refine lv_isub hC.1 hC.2.1 dX0_comeBackFrom_34 ?_
    refine lv_iadd hC.1 hC.2.1 dX0_comeBackFrom_35 ?_
    refine pn_7_6 hC hS hk4 wq_735 dX0_comeBackFrom_36 (fun H locs hS => ?_)
    obtain ⟨V6, eV6⟩ : ∃ z : VS, z = vup V5 7 w1 i1 6 0 ((V5 7 w1 i1 6 0) + (a2 - 14)) := ⟨_, rfl⟩
    rw [← eV6] at hS
    have h := h V6 eV6
    exact g_vret hC hr hlk hS h dX0_comeBackFrom_39
def wp_X0_copyFrom (ks : List KY) (w i w1 i1 : Nat) (V : VS) (post : VS → Prop) : Prop := ((6, w, i) ∈ ks ∧ (6, w1, i1) ∈ ks ∧ (8, w, i) ∈ ks ∧ wp_X3_copyFrom ks w i w1 i1 V (fun V3 => (∀ V5 : VS, V5 = vup V3 6 w i 3 0 (V3 6 w1 i1 3 0) → ∀ V6 : VS, V6 = vup V5 6 w i 4 0 (V5 6 w1 i1 4 0) → ∀ V7 : VS, V7 = vup V6 6 w i 5 0 (V6 6 w1 i1 5 0) → post V7)))
set_option maxHeartbeats 4000000 in
set_option maxRecDepth 100000 in
theorem c_X0_copyFrom (l : Launch) (G : GG) (ks : List KY) (ad : AD) (w : Nat) (i : Nat) (w1 : Nat) (i1 : Nat) (V : VS) (post : VS → Prop) (h : wp_X0_copyFrom ks w i w1 i1 V post) (sz : Nat) : Met l yX0_copyFrom (ws_ yX0_copyFrom cX0_copyFrom 2 none) ({ frames := 2, cells := 0, slots := 0, locals := 43 }) (mPc [.ref (ad 6 w i), .ref (ad 6 w1 i1)] G ks ad V sz) (mQv post G ks ad sz) 0 0 (mA ks ad sz) := by
  refine g_met (own := RX0) (by decide) rfl (Nat.le_of_ble_eq_true rfl) ?_
  intro p e s m args below meth c ls hC hsz hr hlk hin hS ha hl
  have hl : lv_has ls 2 [(0, .ref (ad 6 w i)), (1, .ref (ad 6 w1 i1))] := hl
  unfold wp_X0_copyFrom at h
  refine lv_aload_n hC.1 hC.2.1 dX0_copyFrom_0 rfl (lv_at hl 0 rfl) ?_
  obtain ⟨hk1, h⟩ := h
  refine gf_6_2 hC hS hk1 wq_682 dX0_copyFrom_1 ?_
  refine lv_aload_n hC.1 hC.2.1 dX0_copyFrom_4 rfl (lv_at hl 1 rfl) ?_
  obtain ⟨hk2, h⟩ := h
  refine gf_6_2 hC hS hk2 wq_682 dX0_copyFrom_5 ?_
  obtain ⟨hk4, h⟩ := h
  refine g_callv0 hS (g_runV (n := 1) (rest := []) (As := [.ref (ad 8 w1 i1)]) (C := RX3) (T := TX3) (N := 2) hC hS hk4 rfl rfl (c_X3_copyFrom l G ks ad w i w1 i1 V _ h _) (gI wq_917 wq_918 wq_919 wq_63 wq_920) rfl ⟨⟨by decide +kernel, by decide +kernel, by decide +kernel⟩, rfl, rfl, Nat.le_of_ble_eq_true rfl, Nat.le_of_ble_eq_true rfl⟩ rfl hl rfl (Nat.le_of_ble_eq_true rfl) dX0_copyFrom_8 ⟨Nat.le_of_ble_eq_true rfl, Nat.le_of_ble_eq_true rfl⟩) (fun V3 H locs h hS => ?_)
  refine lv_aload_n hC.1 hC.2.1 dX0_copyFrom_11 rfl (lv_at hl 0 rfl) ?_
  refine lv_aload_n hC.1 hC.2.1 dX0_copyFrom_12 rfl (lv_at hl 1 rfl) ?_
  refine gf_6_3 hC hS hk2 wq_685 dX0_copyFrom_13 ?_
  refine pf_6_3 hC hS hk1 wq_685 dX0_copyFrom_16 (fun H locs hS => ?_)
  obtain ⟨V5, eV5⟩ : ∃ z : VS, z = vup V3 6 w i 3 0 (V3 6 w1 i1 3 0) := ⟨_, rfl⟩
  rw [← eV5] at hS
  have h := h V5 eV5
  refine lv_aload_n hC.1 hC.2.1 dX0_copyFrom_19 rfl (lv_at hl 0 rfl) ?_
  refine lv_aload_n hC.1 hC.2.1 dX0_copyFrom_20 rfl (lv_at hl 1 rfl) ?_
  refine gf_6_4 hC hS hk2 wq_688 dX0_copyFrom_21 ?_
  refine pf_6_4 hC hS hk1 wq_688 dX0_copyFrom_24 (fun H locs hS => ?_)
  obtain ⟨V6, eV6⟩ : ∃ z : VS, z = vup V5 6 w i 4 0 (V5 6 w1 i1 4 0) := ⟨_, rfl⟩
  rw [← eV6] at hS
  have h := h V6 eV6
  refine lv_aload_n hC.1 hC.2.1 dX0_copyFrom_27 rfl (lv_at hl 0 rfl) ?_
  refine lv_aload_n hC.1 hC.2.1 dX0_copyFrom_28 rfl (lv_at hl 1 rfl) ?_
  refine gf_6_5 hC hS hk2 wq_690 dX0_copyFrom_29 ?_
  refine pf_6_5 hC hS hk1 wq_690 dX0_copyFrom_32 (fun H locs hS => ?_)
  obtain ⟨V7, eV7⟩ : ∃ z : VS, z = vup V6 6 w i 5 0 (V6 6 w1 i1 5 0) := ⟨_, rfl⟩
  rw [← eV7] at hS
  have h := h V7 eV7
  exact g_vret hC hr hlk hS h dX0_copyFrom_35
def wp_J6_bitCount_0f7a4 (ks : List KY) (a0 : Int32) (V : VS) (post : Int32 → VS → Prop) : Prop := (∀ y1 : Int32, y1 = a0 - (((a0.toUInt32 >>> ((1 : Int32).toUInt32 &&& Int32.toUInt32 31)).toInt32) &&& 1431655765) → ∀ y2 : Int32, y2 = (y1 &&& 858993459) + (((y1.toUInt32 >>> ((2 : Int32).toUInt32 &&& Int32.toUInt32 31)).toInt32) &&& 858993459) → ∀ y3 : Int32, y3 = (y2 + ((y2.toUInt32 >>> ((4 : Int32).toUInt32 &&& Int32.toUInt32 31)).toInt32)) &&& 252645135 → ∀ y4 : Int32, y4 = y3 + ((y3.toUInt32 >>> ((8 : Int32).toUInt32 &&& Int32.toUInt32 31)).toInt32) → ∀ y5 : Int32, y5 = y4 + ((y4.toUInt32 >>> ((16 : Int32).toUInt32 &&& Int32.toUInt32 31)).toInt32) → post (y5 &&& 63) V)
set_option maxHeartbeats 4000000 in
set_option maxRecDepth 100000 in
theorem c_J6_bitCount_0f7a4 (l : Launch) (G : GG) (ks : List KY) (ad : AD) (a0 : Int32) (V : VS) (post : Int32 → VS → Prop) (h : wp_J6_bitCount_0f7a4 ks a0 V post) (sz : Nat) : Met l yJ6_bitCount_0f7a4 (ws_ yJ6_bitCount_0f7a4 cJ6_bitCount_0f7a4 1 (some .int)) ({ frames := 0, cells := 0, slots := 0, locals := 0 }) (mPc [.int a0] G ks ad V sz) (mQi post G ks ad sz) 0 0 (mA ks ad sz) := by
  refine g_met (own := RJ6) (by decide) rfl (Nat.le_of_ble_eq_true rfl) ?_
  intro p e s m args below meth c ls hC hsz hr hlk hin hS ha hl
  have hl : lv_has ls 1 [(0, .int a0)] := hl
  unfold wp_J6_bitCount_0f7a4 at h
  refine lv_iload_n hC.1 hC.2.1 dJ6_bitCount_0f7a4_0 rfl (lv_at hl 0 rfl) ?_
  refine lv_iload_n hC.1 hC.2.1 dJ6_bitCount_0f7a4_1 rfl (lv_at hl 0 rfl) ?_
  refine lv_iconst (v := 1) hC.1 hC.2.1 dJ6_bitCount_0f7a4_2 (by decide) ?_
  refine lv_iushr hC.1 hC.2.1 dJ6_bitCount_0f7a4_3 rfl ?_
  refine lv_ldcw hC.1 hC.2.1 hC.2.2.2.1 (hC.2.2.2.2.1 _ wq_319) dJ6_bitCount_0f7a4_4 ?_
  refine lv_iand hC.1 hC.2.1 dJ6_bitCount_0f7a4_7 ?_
  refine lv_isub hC.1 hC.2.1 dJ6_bitCount_0f7a4_8 ?_
  refine lv_topi (fun y1 ey1 => ?_)
  have h := h y1 ey1
  refine lv_istore_n (lv' := [(0, .int y1)]) hC.1 hC.2.1 dJ6_bitCount_0f7a4_9 rfl hl (by decide) rfl (fun ls hl => ?_)
  refine lv_iload_n hC.1 hC.2.1 dJ6_bitCount_0f7a4_10 rfl (lv_at hl 0 rfl) ?_
  refine lv_ldcw hC.1 hC.2.1 hC.2.2.2.1 (hC.2.2.2.2.1 _ wq_320) dJ6_bitCount_0f7a4_11 ?_
  refine lv_iand hC.1 hC.2.1 dJ6_bitCount_0f7a4_14 ?_
  refine lv_iload_n hC.1 hC.2.1 dJ6_bitCount_0f7a4_15 rfl (lv_at hl 0 rfl) ?_
  refine lv_iconst (v := 2) hC.1 hC.2.1 dJ6_bitCount_0f7a4_16 (by decide) ?_
  refine lv_iushr hC.1 hC.2.1 dJ6_bitCount_0f7a4_17 rfl ?_
  refine lv_ldcw hC.1 hC.2.1 hC.2.2.2.1 (hC.2.2.2.2.1 _ wq_320) dJ6_bitCount_0f7a4_18 ?_
  refine lv_iand hC.1 hC.2.1 dJ6_bitCount_0f7a4_21 ?_
  refine lv_iadd hC.1 hC.2.1 dJ6_bitCount_0f7a4_22 ?_
  refine lv_topi (fun y2 ey2 => ?_)
  have h := h y2 ey2
  refine lv_istore_n (lv' := [(0, .int y2)]) hC.1 hC.2.1 dJ6_bitCount_0f7a4_23 rfl hl (by decide) rfl (fun ls hl => ?_)
  refine lv_iload_n hC.1 hC.2.1 dJ6_bitCount_0f7a4_24 rfl (lv_at hl 0 rfl) ?_
  refine lv_iload_n hC.1 hC.2.1 dJ6_bitCount_0f7a4_25 rfl (lv_at hl 0 rfl) ?_
  refine lv_iconst (v := 4) hC.1 hC.2.1 dJ6_bitCount_0f7a4_26 (by decide) ?_
  refine lv_iushr hC.1 hC.2.1 dJ6_bitCount_0f7a4_27 rfl ?_
  refine lv_iadd hC.1 hC.2.1 dJ6_bitCount_0f7a4_28 ?_
  refine lv_ldcw hC.1 hC.2.1 hC.2.2.2.1 (hC.2.2.2.2.1 _ wq_321) dJ6_bitCount_0f7a4_29 ?_
  refine lv_iand hC.1 hC.2.1 dJ6_bitCount_0f7a4_32 ?_
  refine lv_topi (fun y3 ey3 => ?_)
  have h := h y3 ey3
  refine lv_istore_n (lv' := [(0, .int y3)]) hC.1 hC.2.1 dJ6_bitCount_0f7a4_33 rfl hl (by decide) rfl (fun ls hl => ?_)
  refine lv_iload_n hC.1 hC.2.1 dJ6_bitCount_0f7a4_34 rfl (lv_at hl 0 rfl) ?_
  refine lv_iload_n hC.1 hC.2.1 dJ6_bitCount_0f7a4_35 rfl (lv_at hl 0 rfl) ?_
  refine lv_bipush (v := 8) hC.1 hC.2.1 dJ6_bitCount_0f7a4_36 (by decide) ?_
  refine lv_iushr hC.1 hC.2.1 dJ6_bitCount_0f7a4_38 rfl ?_
  refine lv_iadd hC.1 hC.2.1 dJ6_bitCount_0f7a4_39 ?_
  refine lv_topi (fun y4 ey4 => ?_)
  have h := h y4 ey4
  refine lv_istore_n (lv' := [(0, .int y4)]) hC.1 hC.2.1 dJ6_bitCount_0f7a4_40 rfl hl (by decide) rfl (fun ls hl => ?_)
  refine lv_iload_n hC.1 hC.2.1 dJ6_bitCount_0f7a4_41 rfl (lv_at hl 0 rfl) ?_
  refine lv_iload_n hC.1 hC.2.1 dJ6_bitCount_0f7a4_42 rfl (lv_at hl 0 rfl) ?_
  refine lv_bipush (v := 16) hC.1 hC.2.1 dJ6_bitCount_0f7a4_43 (by decide) ?_
  refine lv_iushr hC.1 hC.2.1 dJ6_bitCount_0f7a4_45 rfl ?_
  refine lv_iadd hC.1 hC.2.1 dJ6_bitCount_0f7a4_46 ?_
  refine lv_topi (fun y5 ey5 => ?_)
  have h := h y5 ey5
  refine lv_istore_n (lv' := [(0, .int y5)]) hC.1 hC.2.1 dJ6_bitCount_0f7a4_47 rfl hl (by decide) rfl (fun ls hl => ?_)
  refine lv_iload_n hC.1 hC.2.1 dJ6_bitCount_0f7a4_48 rfl (lv_at hl 0 rfl) ?_
  refine lv_bipush (v := 63) hC.1 hC.2.1 dJ6_bitCount_0f7a4_49 (by decide) ?_
  refine lv_iand hC.1 hC.2.1 dJ6_bitCount_0f7a4_51 ?_
  exact g_iret hC hr hlk hS h dJ6_bitCount_0f7a4_52
def wp_J9_floorMod_7cf53 (ks : List KY) (a0 : Int32) (a1 : Int32) (V : VS) (post : Int32 → VS → Prop) : Prop := ((¬ a1 = 0) ∧ ∀ y2 : Int32, y2 = a0 - a0 / a1 * a1 → ((0 : Int32) ≤ (a0 ^^^ a1) → (post y2 V)) ∧ (¬ ((0 : Int32) ≤ (a0 ^^^ a1)) → ((y2 = 0 → (post y2 V)) ∧ (¬ (y2 = 0) → (post (y2 + a1) V)))))
set_option maxHeartbeats 4000000 in
set_option maxRecDepth 100000 in
theorem c_J9_floorMod_7cf53 (l : Launch) (G : GG) (ks : List KY) (ad : AD) (a0 : Int32) (a1 : Int32) (V : VS) (post : Int32 → VS → Prop) (h : wp_J9_floorMod_7cf53 ks a0 a1 V post) (sz : Nat) : Met l yJ9_floorMod_7cf53 (ws_ yJ9_floorMod_7cf53 cJ9_floorMod_7cf53 3 (some .int)) ({ frames := 0, cells := 0, slots := 0, locals := 0 }) (mPc [.int a0, .int a1] G ks ad V sz) (mQi post G ks ad sz) 0 0 (mA ks ad sz) := by
  refine g_metF (own := RJ9) (by decide +kernel) rfl (Nat.le_of_ble_eq_true rfl) ?_
  intro p e s m args below meth c ls hC hsz hr hlk hin hS ha hl
  have hl : lv_has ls 3 [(0, .int a0), (1, .int a1)] := hl
  unfold wp_J9_floorMod_7cf53 at h
  refine lv_iload_n hC.1 hC.2.1 dJ9_floorMod_7cf53_0 rfl (lv_at hl 0 rfl) ?_
  refine lv_iload_n hC.1 hC.2.1 dJ9_floorMod_7cf53_1 rfl (lv_at hl 1 rfl) ?_
  obtain ⟨hz1, h⟩ := h
  refine lv_irem hC.1 hC.2.1 dJ9_floorMod_7cf53_2 hz1 ?_
  refine lv_topi (fun y2 ey2 => ?_)
  have h := h y2 ey2
  refine lv_istore_n (lv' := [(2, .int y2), (0, .int a0), (1, .int a1)]) hC.1 hC.2.1 dJ9_floorMod_7cf53_3 rfl hl (by decide) rfl (fun ls hl => ?_)
  refine lv_iload_n hC.1 hC.2.1 dJ9_floorMod_7cf53_4 rfl (lv_at hl 1 rfl) ?_
  refine lv_iload_n hC.1 hC.2.1 dJ9_floorMod_7cf53_5 rfl (lv_at hl 2 rfl) ?_
  refine lv_ixor hC.1 hC.2.1 dJ9_floorMod_7cf53_6 ?_
  refine lv_if_ge (tgt := 18) hC.1 hC.2.1 dJ9_floorMod_7cf53_7 (by decide) (fun c4 => ?_) (fun c4 => ?_)
  · have h := h.1 c4
    refine lv_iload_n hC.1 hC.2.1 dJ9_floorMod_7cf53_18 rfl (lv_at hl 0 rfl) ?_
    exact g_iret hC hr hlk hS h dJ9_floorMod_7cf53_19
  · have h := h.2 c4
    refine lv_iload_n hC.1 hC.2.1 dJ9_floorMod_7cf53_10 rfl (lv_at hl 0 rfl) ?_
    refine lv_if_eq (tgt := 18) hC.1 hC.2.1 dJ9_floorMod_7cf53_11 (by decide) (fun c3 => ?_) (fun c3 => ?_)
    · have h := h.1 c3
      refine lv_iload_n hC.1 hC.2.1 dJ9_floorMod_7cf53_18 rfl (lv_at hl 0 rfl) ?_
      exact g_iret hC hr hlk hS h dJ9_floorMod_7cf53_19
    · have h := h.2 c3
      refine lv_iload_n hC.1 hC.2.1 dJ9_floorMod_7cf53_14 rfl (lv_at hl 0 rfl) ?_
      refine lv_iload_n hC.1 hC.2.1 dJ9_floorMod_7cf53_15 rfl (lv_at hl 2 rfl) ?_
      refine lv_iadd hC.1 hC.2.1 dJ9_floorMod_7cf53_16 ?_
      exact g_iret hC hr hlk hS h dJ9_floorMod_7cf53_17
def wk_X8_standsForHalts_2 (ks : List KY) (a0 : Int32) (a1 : Int32) (post : Int32 → VS → Prop) (B2 : Int32 → VS → Prop) (x1 : Int32) (x2 : Int32) (V : VS) : Prop := ((x2 ≤ 0 → (post 1 V)) ∧ (¬ (x2 ≤ 0) → (wp_X8_isWithin ks (x2 - x2 / 10 * 10) 1 x1 V (fun r2 V1 => ((r2 = 0 → (post 0 V1)) ∧ (¬ (r2 = 0) → (∀ y3 : Int32, y3 = x2 / 10 → B2 y3 V1)))))))
def wl_X8_standsForHalts_2 (ks : List KY) (a0 : Int32) (a1 : Int32) (post : Int32 → VS → Prop) (x1 : Int32) (x2 : Int32) (V : VS) : Prop := ∃ J : Nat → Int32 → VS → Prop, (∃ n, J n x2 V) ∧ ∀ (n : Nat) (x2 : Int32) (V : VS), J n x2 V → wk_X8_standsForHalts_2 ks a0 a1 post (fun x2 V => ∃ n', n' < n ∧ J n' x2 V) x1 x2 V
def wp_X8_standsForHalts (ks : List KY) (a0 : Int32) (a1 : Int32) (V : VS) (post : Int32 → VS → Prop) : Prop := (wl_X8_standsForHalts_2 ks a0 a1 post a1 a0 V)
set_option maxHeartbeats 4000000 in
set_option maxRecDepth 100000 in
theorem c_X8_standsForHalts (l : Launch) (G : GG) (ks : List KY) (ad : AD) (a0 : Int32) (a1 : Int32) (V : VS) (post : Int32 → VS → Prop) (h : wp_X8_standsForHalts ks a0 a1 V post) (sz : Nat) : Met l yX8_standsForHalts (ws_ yX8_standsForHalts cX8_standsForHalts 3 (some .boolean)) ({ frames := 1, cells := 0, slots := 0, locals := 22 }) (mPc [.int a0, .int a1] G ks ad V sz) (mQi post G ks ad sz) 0 0 (mA ks ad sz) := by
  refine g_met (own := RX8) (by decide) rfl (Nat.le_of_ble_eq_true rfl) ?_
  intro p e s m args below meth c ls hC hsz hr hlk hin hS ha hl
  have hl : lv_has ls 3 [(0, .int a0), (1, .int a1)] := hl
  unfold wp_X8_standsForHalts at h
  have kT2 : ∀ (x1 : Int32) (x2 : Int32) (V : VS) (H : Heap) (locs : List Loc) (ls : Array Slot), wl_X8_standsForHalts_2 ks a0 a1 post x1 x2 V → ST G ks ad V (mA ks ad sz) s.heap H locs → lv_has ls 3 [(1, .int x1), (2, .int x2)] → W p l e ({ frames := 1, cells := 0, slots := 0, locals := 22 } : Room) s m args below meth c H locs 0 0 (MQ below (mQi post G ks ad sz) args s 0 0 (mA ks ad sz)) (F0 m 2 ls []) := by
    intro x1 x2 V H locs ls h hS hl
    obtain ⟨J, ⟨n, hJ⟩, hb⟩ := h
    induction n using Nat.strongRecOn generalizing x2 V H locs ls with
    | _ n ih =>
      have h := hb n x2 V hJ
      obtain ⟨B2, eB⟩ : ∃ z : Int32 → VS → Prop, z = (fun x2 V => ∃ n', n' < n ∧ J n' x2 V) := ⟨_, rfl⟩
      rw [← eB] at h
      have kB2 : ∀ (x2 : Int32) (V : VS) (H : Heap) (locs : List Loc) (ls : Array Slot), B2 x2 V → ST G ks ad V (mA ks ad sz) s.heap H locs → lv_has ls 3 [(1, .int x1), (2, .int x2)] → W p l e ({ frames := 1, cells := 0, slots := 0, locals := 22 } : Room) s m args below meth c H locs 0 0 (MQ below (mQi post G ks ad sz) args s 0 0 (mA ks ad sz)) (F0 m 2 ls []) := by
        intro x2 V H locs ls h hS hl
        rw [eB] at h
        obtain ⟨n', hn, hJ'⟩ := h
        exact ih n' hn _ _ _ _ _ hS hl hJ'
      clear ih hJ hb eB
      unfold wk_X8_standsForHalts_2 at h
      refine lv_iload_n hC.1 hC.2.1 dX8_standsForHalts_2 rfl (lv_at hl 1 rfl) ?_
      refine lv_if_le (tgt := 28) hC.1 hC.2.1 dX8_standsForHalts_3 (by decide) (fun c5 => ?_) (fun c5 => ?_)
      · have h := h.1 c5
        refine lv_iconst (v := 1) hC.1 hC.2.1 dX8_standsForHalts_28 (by decide) ?_
        exact g_zret hC hr hlk hS (by decide) h dX8_standsForHalts_29
      · have h := h.2 c5
        refine lv_iload_n hC.1 hC.2.1 dX8_standsForHalts_6 rfl (lv_at hl 1 rfl) ?_
        refine lv_bipush (v := 10) hC.1 hC.2.1 dX8_standsForHalts_7 (by decide) ?_
        refine lv_irem hC.1 hC.2.1 dX8_standsForHalts_9 (by decide) ?_
        refine lv_iconst (v := 1) hC.1 hC.2.1 dX8_standsForHalts_10 (by decide) ?_
        refine lv_iload_n hC.1 hC.2.1 dX8_standsForHalts_11 rfl (lv_at hl 0 rfl) ?_
        refine g_calli0 hS (g_runS (n := 3) (rest := []) (As := [.int (x2 - x2 / 10 * 10), .int 1, .int x1]) hC hS (c_X8_isWithin l G ks ad (x2 - x2 / 10 * 10) 1 x1 V _ h _) (gIS wq_532 wq_533 wq_39 wq_534) ⟨⟨by decide +kernel, by decide +kernel, by decide +kernel⟩, rfl, rfl, Nat.le_of_ble_eq_true rfl, Nat.le_of_ble_eq_true rfl⟩ rfl hl rfl (Nat.le_of_ble_eq_true rfl) dX8_standsForHalts_12 ⟨Nat.le_of_ble_eq_true rfl, Nat.le_of_ble_eq_true rfl⟩) (fun r2 V1 H locs h hS => ?_)
        refine lv_if_ne (tgt := 20) hC.1 hC.2.1 dX8_standsForHalts_15 (by decide) (fun c4 => ?_) (fun c4 => ?_)
        · have h := h.2 c4
          refine lv_iload_n hC.1 hC.2.1 dX8_standsForHalts_20 rfl (lv_at hl 1 rfl) ?_
          refine lv_bipush (v := 10) hC.1 hC.2.1 dX8_standsForHalts_21 (by decide) ?_
          refine lv_idiv hC.1 hC.2.1 dX8_standsForHalts_23 (by decide) ?_
          refine lv_topi (fun y3 ey3 => ?_)
          have h := h y3 ey3
          refine lv_istore_n (lv' := [(2, .int y3), (1, .int x1)]) hC.1 hC.2.1 dX8_standsForHalts_24 rfl hl (by decide) rfl (fun ls hl => ?_)
          refine lv_goto (tgt := 2) hC.1 hC.2.1 dX8_standsForHalts_25 (by decide) ?_
          exact kB2 _ _ _ _ _ h hS (lv_sub hl [1, 0] rfl)
        · have h := h.1 c4
          refine lv_iconst (v := 0) hC.1 hC.2.1 dX8_standsForHalts_18 (by decide) ?_
          exact g_zret hC hr hlk hS (by decide) h dX8_standsForHalts_19
  refine lv_iload_n hC.1 hC.2.1 dX8_standsForHalts_0 rfl (lv_at hl 0 rfl) ?_
  refine lv_istore_n (lv' := [(2, .int a0), (0, .int a0), (1, .int a1)]) hC.1 hC.2.1 dX8_standsForHalts_1 rfl hl (by decide) rfl (fun ls hl => ?_)
  exact kT2 _ _ _ _ _ _ h hS (lv_sub hl [2, 0] rfl)
