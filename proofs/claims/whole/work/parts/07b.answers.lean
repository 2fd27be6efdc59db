def wk_X7_readersAt_4 (ks : List KY) (w : Nat) (a1 : Int32) (post : Int32 → VS → Prop) (B4 : Int32 → Int32 → VS → Prop) (x1 : Int32) (x2 : Int32) (x3 : Int32) (V : VS) : Prop := ((1, w, 0) ∈ ks ∧ (2, w, 3) ∈ ks ∧ ((V 2 w 3 2 0) ≤ x3 → (post x2 V)) ∧ (¬ ((V 2 w 3 2 0) ≤ x3) → ((3, w, 3) ∈ ks ∧ lsz V w 3 ≤ 33 ∧ (¬ x3 < 0 ∧ x3 < V 2 w 3 2 0) ∧ ∀ j6 : Nat, j6 = x3.toNatClampNeg → (7, w, j6) ∈ ks ∧ ((V 7 w j6 1 0) = x1 → (∀ y8 : Int32, y8 = x2 + 1 → ∀ y9 : Int32, y9 = x3 + 1 → B4 y8 y9 V)) ∧ (¬ ((V 7 w j6 1 0) = x1) → (∀ y10 : Int32, y10 = x3 + 1 → B4 x2 y10 V)))))
def wl_X7_readersAt_4 (ks : List KY) (w : Nat) (a1 : Int32) (post : Int32 → VS → Prop) (x1 : Int32) (x2 : Int32) (x3 : Int32) (V : VS) : Prop := ∃ J : Nat → Int32 → Int32 → VS → Prop, (∃ n, J n x2 x3 V) ∧ ∀ (n : Nat) (x2 : Int32) (x3 : Int32) (V : VS), J n x2 x3 V → wk_X7_readersAt_4 ks w a1 post (fun x2 x3 V => ∃ n', n' < n ∧ J n' x2 x3 V) x1 x2 x3 V
def wp_X7_readersAt (ks : List KY) (w : Nat) (a1 : Int32) (V : VS) (post : Int32 → VS → Prop) : Prop := (wl_X7_readersAt_4 ks w a1 post a1 0 0 V)
set_option maxHeartbeats 4000000 in
set_option maxRecDepth 100000 in
theorem c_X7_readersAt (l : Launch) (G : GG) (ks : List KY) (ad : AD) (w : Nat) (a1 : Int32) (V : VS) (post : Int32 → VS → Prop) (h : wp_X7_readersAt ks w a1 V post) (sz : Nat) : Met l yX7_readersAt (ws_ yX7_readersAt cX7_readersAt 4 (some .int)) ({ frames := 3, cells := 0, slots := 0, locals := 64 }) (mPc [.ref (ad 1 w 0), .int a1] G ks ad V sz) (mQi post G ks ad sz) 0 0 (mA ks ad sz) := by
  refine g_met (own := RX7) (by decide) rfl (Nat.le_of_ble_eq_true rfl) ?_
  intro p e s m args below meth c ls hC hsz hr hlk hin hS ha hl
  have hl : lv_has ls 4 [(0, .ref (ad 1 w 0)), (1, .int a1)] := hl
  unfold wp_X7_readersAt at h
  have kT4 : ∀ (x1 : Int32) (x2 : Int32) (x3 : Int32) (V : VS) (H : Heap) (locs : List Loc) (ls : Array Slot), wl_X7_readersAt_4 ks w a1 post x1 x2 x3 V → ST G ks ad V (mA ks ad sz) s.heap H locs → lv_has ls 4 [(0, .ref (ad 1 w 0)), (1, .int x1), (2, .int x2), (3, .int x3)] → W p l e ({ frames := 3, cells := 0, slots := 0, locals := 64 } : Room) s m args below meth c H locs 0 0 (MQ below (mQi post G ks ad sz) args s 0 0 (mA ks ad sz)) (F0 m 4 ls []) := by
    intro x1 x2 x3 V H locs ls h hS hl
    obtain ⟨J, ⟨n, hJ⟩, hb⟩ := h
    induction n using Nat.strongRecOn generalizing x2 x3 V H locs ls with
    | _ n ih =>
      have h := hb n x2 x3 V hJ
      obtain ⟨B4, eB⟩ : ∃ z : Int32 → Int32 → VS → Prop, z = (fun x2 x3 V => ∃ n', n' < n ∧ J n' x2 x3 V) := ⟨_, rfl⟩
      rw [← eB] at h
      have kB4 : ∀ (x2 : Int32) (x3 : Int32) (V : VS) (H : Heap) (locs : List Loc) (ls : Array Slot), B4 x2 x3 V → ST G ks ad V (mA ks ad sz) s.heap H locs → lv_has ls 4 [(0, .ref (ad 1 w 0)), (1, .int x1), (2, .int x2), (3, .int x3)] → W p l e ({ frames := 3, cells := 0, slots := 0, locals := 64 } : Room) s m args below meth c H locs 0 0 (MQ below (mQi post G ks ad sz) args s 0 0 (mA ks ad sz)) (F0 m 4 ls []) := by
        intro x2 x3 V H locs ls h hS hl
        rw [eB] at h
        obtain ⟨n', hn, hJ'⟩ := h
        exact ih n' hn _ _ _ _ _ _ hS hl hJ'
      clear ih hJ hb eB
      unfold wk_X7_readersAt_4 at h
      refine lv_iload_n hC.1 hC.2.1 dX7_readersAt_4 rfl (lv_at hl 3 rfl) ?_
      refine lv_aload_n hC.1 hC.2.1 dX7_readersAt_5 rfl (lv_at hl 0 rfl) ?_
      obtain ⟨hk1, h⟩ := h
      refine gf_1_3 hC hS hk1 wq_140 dX7_readersAt_6 ?_
      obtain ⟨hk2, h⟩ := h
      refine g_lsize hC hS hk2 wq_183 hl ⟨Nat.le_of_ble_eq_true rfl, Nat.le_of_ble_eq_true rfl, Nat.zero_le _⟩ (Nat.le_of_ble_eq_true rfl) dX7_readersAt_9 ⟨Nat.le_of_ble_eq_true rfl, Nat.le_of_ble_eq_true rfl⟩ (fun H locs hS => ?_)
      refine lv_icmp_ge (tgt := 42) hC.1 hC.2.1 dX7_readersAt_12 (by decide) (fun c12 => ?_) (fun c12 => ?_)
      · have h := h.1 c12
        refine lv_iload_n hC.1 hC.2.1 dX7_readersAt_42 rfl (lv_at hl 2 rfl) ?_
        exact g_iret hC hr hlk hS h dX7_readersAt_43
      · have h := h.2 c12
        refine lv_aload_n hC.1 hC.2.1 dX7_readersAt_15 rfl (lv_at hl 0 rfl) ?_
        refine gf_1_3 hC hS hk1 wq_140 dX7_readersAt_16 ?_
        refine lv_iload_n hC.1 hC.2.1 dX7_readersAt_19 rfl (lv_at hl 3 rfl) ?_
        obtain ⟨hk3, h⟩ := h
        obtain ⟨hq4, h⟩ := h
        obtain ⟨hx5, h⟩ := h
        refine g_lget (E := 7) hC hS rfl hk2 hk3 hq4 hx5.1 hx5.2 wq_187 hl ⟨Nat.le_of_ble_eq_true rfl, Nat.le_of_ble_eq_true rfl, Nat.zero_le _⟩ (Nat.le_of_ble_eq_true rfl) dX7_readersAt_20 ⟨Nat.le_of_ble_eq_true rfl, Nat.le_of_ble_eq_true rfl⟩ (fun j6 ej6 H locs hS => ?_)
        have h := h j6 ej6
        obtain ⟨hk7, h⟩ := h
        refine g_cast hC hS hk7 rfl (show vwCl[5]? = some (RX4, TX4, 8) from rfl) wq_228 dX7_readersAt_23 ?_
        refine gn_7_1 hC hS hk7 wq_723 dX7_readersAt_26 ?_
        refine lv_iload_n hC.1 hC.2.1 dX7_readersAt_29 rfl (lv_at hl 1 rfl) ?_
        refine lv_icmp_ne (tgt := 36) hC.1 hC.2.1 dX7_readersAt_30 (by decide) (fun c11 => ?_) (fun c11 => ?_)
        · have h := h.2 c11
          obtain ⟨y10, ey10⟩ : ∃ z : Int32, z = x3 + 1 := ⟨_, rfl⟩
          have h := h y10 ey10
          refine lv_iinc (v := y10) (lv' := [(3, .int y10), (0, .ref (ad 1 w 0)), (1, .int x1), (2, .int x2)]) hC.1 hC.2.1 dX7_readersAt_36 hl (k := 3) rfl (by rw [ey10]; rfl) (by decide) rfl (fun ls hl => ?_)
          refine lv_goto (tgt := 4) hC.1 hC.2.1 dX7_readersAt_39 (by decide) ?_
          exact kB4 _ _ _ _ _ _ h hS (lv_sub hl [1, 2, 3, 0] rfl)
        · have h := h.1 c11
          obtain ⟨y8, ey8⟩ : ∃ z : Int32, z = x2 + 1 := ⟨_, rfl⟩
          have h := h y8 ey8
          refine lv_iinc (v := y8) (lv' := [(2, .int y8), (0, .ref (ad 1 w 0)), (1, .int x1), (3, .int x3)]) hC.1 hC.2.1 dX7_readersAt_33 hl (k := 2) rfl (by rw [ey8]; rfl) (by decide) rfl (fun ls hl => ?_)
          obtain ⟨y9, ey9⟩ : ∃ z : Int32, z = x3 + 1 := ⟨_, rfl⟩
          have h := h y9 ey9
          refine lv_iinc (v := y9) (lv' := [(3, .int y9), (2, .int y8), (0, .ref (ad 1 w 0)), (1, .int x1)]) hC.1 hC.2.1 dX7_readersAt_36 hl (k := 3) rfl (by rw [ey9]; rfl) (by decide) rfl (fun ls hl => ?_)
          refine lv_goto (tgt := 4) hC.1 hC.2.1 dX7_readersAt_39 (by decide) ?_
          exact kB4 _ _ _ _ _ _ h hS (lv_sub hl [2, 3, 1, 0] rfl)
  refine lv_iconst (v := 0) hC.1 hC.2.1 dX7_readersAt_0 (by decide) ?_
  refine lv_istore_n (lv' := [(2, .int 0), (0, .ref (ad 1 w 0)), (1, .int a1)]) hC.1 hC.2.1 dX7_readersAt_1 rfl hl (by decide) rfl (fun ls hl => ?_)
  refine lv_iconst (v := 0) hC.1 hC.2.1 dX7_readersAt_2 (by decide) ?_
  refine lv_istore_n (lv' := [(3, .int 0), (2, .int 0), (0, .ref (ad 1 w 0)), (1, .int a1)]) hC.1 hC.2.1 dX7_readersAt_3 rfl hl (by decide) rfl (fun ls hl => ?_)
  exact kT4 _ _ _ _ _ _ _ h hS (lv_sub hl [2, 3, 1, 0] rfl)
def wk_X7_lanesAt_4 (ks : List KY) (w : Nat) (a1 : Int32) (post : Int32 → VS → Prop) (B4 : Int32 → Int32 → VS → Prop) (x1 : Int32) (x2 : Int32) (x3 : Int32) (V : VS) : Prop := ((1, w, 0) ∈ ks ∧ (2, w, 1) ∈ ks ∧ ((V 2 w 1 2 0) ≤ x3 → (post x2 V)) ∧ (¬ ((V 2 w 1 2 0) ≤ x3) → ((3, w, 1) ∈ ks ∧ lsz V w 1 ≤ 33 ∧ (¬ x3 < 0 ∧ x3 < V 2 w 1 2 0) ∧ ∀ j6 : Nat, j6 = x3.toNatClampNeg → (5, w, j6) ∈ ks ∧ ((V 5 w j6 0 0) = x1 → (∀ y8 : Int32, y8 = x2 + 1 → ∀ y9 : Int32, y9 = x3 + 1 → B4 y8 y9 V)) ∧ (¬ ((V 5 w j6 0 0) = x1) → (((V 5 w j6 1 0) = x1 → (∀ y10 : Int32, y10 = x2 + 1 → ∀ y11 : Int32, y11 = x3 + 1 → B4 y10 y11 V)) ∧ (¬ ((V 5 w j6 1 0) = x1) → (∀ y12 : Int32, y12 = x3 + 1 → B4 x2 y12 V)))))))
def wl_X7_lanesAt_4 (ks : List KY) (w : Nat) (a1 : Int32) (post : Int32 → VS → Prop) (x1 : Int32) (x2 : Int32) (x3 : Int32) (V : VS) : Prop := ∃ J : Nat → Int32 → Int32 → VS → Prop, (∃ n, J n x2 x3 V) ∧ ∀ (n : Nat) (x2 : Int32) (x3 : Int32) (V : VS), J n x2 x3 V → wk_X7_lanesAt_4 ks w a1 post (fun x2 x3 V => ∃ n', n' < n ∧ J n' x2 x3 V) x1 x2 x3 V
def wp_X7_lanesAt (ks : List KY) (w : Nat) (a1 : Int32) (V : VS) (post : Int32 → VS → Prop) : Prop := (wl_X7_lanesAt_4 ks w a1 post a1 0 0 V)
set_option maxHeartbeats 4000000 in
set_option maxRecDepth 100000 in
theorem c_X7_lanesAt (l : Launch) (G : GG) (ks : List KY) (ad : AD) (w : Nat) (a1 : Int32) (V : VS) (post : Int32 → VS → Prop) (h : wp_X7_lanesAt ks w a1 V post) (sz : Nat) : Met l yX7_lanesAt (ws_ yX7_lanesAt cX7_lanesAt 5 (some .int)) ({ frames := 3, cells := 0, slots := 0, locals := 64 }) (mPc [.ref (ad 1 w 0), .int a1] G ks ad V sz) (mQi post G ks ad sz) 0 0 (mA ks ad sz) := by
  refine g_met (own := RX7) (by decide) rfl (Nat.le_of_ble_eq_true rfl) ?_
  intro p e s m args below meth c ls hC hsz hr hlk hin hS ha hl
  have hl : lv_has ls 5 [(0, .ref (ad 1 w 0)), (1, .int a1)] := hl
  unfold wp_X7_lanesAt at h
  have kT4 : ∀ (x1 : Int32) (x2 : Int32) (x3 : Int32) (V : VS) (H : Heap) (locs : List Loc) (ls : Array Slot), wl_X7_lanesAt_4 ks w a1 post x1 x2 x3 V → ST G ks ad V (mA ks ad sz) s.heap H locs → lv_has ls 5 [(0, .ref (ad 1 w 0)), (1, .int x1), (2, .int x2), (3, .int x3)] → W p l e ({ frames := 3, cells := 0, slots := 0, locals := 64 } : Room) s m args below meth c H locs 0 0 (MQ below (mQi post G ks ad sz) args s 0 0 (mA ks ad sz)) (F0 m 4 ls []) := by
    intro x1 x2 x3 V H locs ls h hS hl
    obtain ⟨J, ⟨n, hJ⟩, hb⟩ := h
    induction n using Nat.strongRecOn generalizing x2 x3 V H locs ls with
    | _ n ih =>
      have h := hb n x2 x3 V hJ
      obtain ⟨B4, eB⟩ : ∃ z : Int32 → Int32 → VS → Prop, z = (fun x2 x3 V => ∃ n', n' < n ∧ J n' x2 x3 V) := ⟨_, rfl⟩
      rw [← eB] at h
      have kB4 : ∀ (x2 : Int32) (x3 : Int32) (V : VS) (H : Heap) (locs : List Loc) (ls : Array Slot), B4 x2 x3 V → ST G ks ad V (mA ks ad sz) s.heap H locs → lv_has ls 5 [(0, .ref (ad 1 w 0)), (1, .int x1), (2, .int x2), (3, .int x3)] → W p l e ({ frames := 3, cells := 0, slots := 0, locals := 64 } : Room) s m args below meth c H locs 0 0 (MQ below (mQi post G ks ad sz) args s 0 0 (mA ks ad sz)) (F0 m 4 ls []) := by
        intro x2 x3 V H locs ls h hS hl
        rw [eB] at h
        obtain ⟨n', hn, hJ'⟩ := h
        exact ih n' hn _ _ _ _ _ _ hS hl hJ'
      clear ih hJ hb eB
      unfold wk_X7_lanesAt_4 at h
      refine lv_iload_n hC.1 hC.2.1 dX7_lanesAt_4 rfl (lv_at hl 3 rfl) ?_
      refine lv_aload_n hC.1 hC.2.1 dX7_lanesAt_5 rfl (lv_at hl 0 rfl) ?_
      obtain ⟨hk1, h⟩ := h
      refine gf_1_1 hC hS hk1 wq_136 dX7_lanesAt_6 ?_
      obtain ⟨hk2, h⟩ := h
      refine g_lsize hC hS hk2 wq_183 hl ⟨Nat.le_of_ble_eq_true rfl, Nat.le_of_ble_eq_true rfl, Nat.zero_le _⟩ (Nat.le_of_ble_eq_true rfl) dX7_lanesAt_9 ⟨Nat.le_of_ble_eq_true rfl, Nat.le_of_ble_eq_true rfl⟩ (fun H locs hS => ?_)
      refine lv_icmp_ge (tgt := 55) hC.1 hC.2.1 dX7_lanesAt_12 (by decide) (fun c15 => ?_) (fun c15 => ?_)
      · have h := h.1 c15
        refine lv_iload_n hC.1 hC.2.1 dX7_lanesAt_55 rfl (lv_at hl 2 rfl) ?_
        exact g_iret hC hr hlk hS h dX7_lanesAt_56
      · have h := h.2 c15
        refine lv_aload_n hC.1 hC.2.1 dX7_lanesAt_15 rfl (lv_at hl 0 rfl) ?_
        refine gf_1_1 hC hS hk1 wq_136 dX7_lanesAt_16 ?_
        refine lv_iload_n hC.1 hC.2.1 dX7_lanesAt_19 rfl (lv_at hl 3 rfl) ?_
        obtain ⟨hk3, h⟩ := h
        obtain ⟨hq4, h⟩ := h
        obtain ⟨hx5, h⟩ := h
        refine g_lget (E := 5) hC hS rfl hk2 hk3 hq4 hx5.1 hx5.2 wq_187 hl ⟨Nat.le_of_ble_eq_true rfl, Nat.le_of_ble_eq_true rfl, Nat.zero_le _⟩ (Nat.le_of_ble_eq_true rfl) dX7_lanesAt_20 ⟨Nat.le_of_ble_eq_true rfl, Nat.le_of_ble_eq_true rfl⟩ (fun j6 ej6 H locs hS => ?_)
        have h := h j6 ej6
        obtain ⟨hk7, h⟩ := h
        refine g_cast hC hS hk7 rfl (show vwCl[3]? = some (RX2, TX2, 5) from rfl) wq_233 dX7_lanesAt_23 ?_
        refine lv_astore (lv' := [(4, .ref (ad 5 w j6)), (0, .ref (ad 1 w 0)), (1, .int x1), (2, .int x2), (3, .int x3)]) hC.1 hC.2.1 dX7_lanesAt_26 hl (by decide) rfl (fun ls hl => ?_)
        refine lv_aload hC.1 hC.2.1 dX7_lanesAt_28 (lv_at hl 0 rfl) ?_
        refine gn_5_0 hC hS hk7 wq_546 dX7_lanesAt_30 ?_
        refine lv_iload_n hC.1 hC.2.1 dX7_lanesAt_33 rfl (lv_at hl 2 rfl) ?_
        refine lv_icmp_eq (tgt := 46) hC.1 hC.2.1 dX7_lanesAt_34 (by decide) (fun c14 => ?_) (fun c14 => ?_)
        · have h := h.1 c14
          obtain ⟨y8, ey8⟩ : ∃ z : Int32, z = x2 + 1 := ⟨_, rfl⟩
          have h := h y8 ey8
          refine lv_iinc (v := y8) (lv' := [(2, .int y8), (4, .ref (ad 5 w j6)), (0, .ref (ad 1 w 0)), (1, .int x1), (3, .int x3)]) hC.1 hC.2.1 dX7_lanesAt_46 hl (k := 3) rfl (by rw [ey8]; rfl) (by decide) rfl (fun ls hl => ?_)
          obtain ⟨y9, ey9⟩ : ∃ z : Int32, z = x3 + 1 := ⟨_, rfl⟩
          have h := h y9 ey9
          refine lv_iinc (v := y9) (lv' := [(3, .int y9), (2, .int y8), (4, .ref (ad 5 w j6)), (0, .ref (ad 1 w 0)), (1, .int x1)]) hC.1 hC.2.1 dX7_lanesAt_49 hl (k := 4) rfl (by rw [ey9]; rfl) (by decide) rfl (fun ls hl => ?_)
          refine lv_goto (tgt := 4) hC.1 hC.2.1 dX7_lanesAt_52 (by decide) ?_
          exact kB4 _ _ _ _ _ _ h hS (lv_sub hl [3, 4, 1, 0] rfl)
        · have h := h.2 c14
          refine lv_aload hC.1 hC.2.1 dX7_lanesAt_37 (lv_at hl 0 rfl) ?_
          refine gn_5_1 hC hS hk7 wq_549 dX7_lanesAt_39 ?_
          refine lv_iload_n hC.1 hC.2.1 dX7_lanesAt_42 rfl (lv_at hl 2 rfl) ?_
          refine lv_icmp_ne (tgt := 49) hC.1 hC.2.1 dX7_lanesAt_43 (by decide) (fun c13 => ?_) (fun c13 => ?_)
          · have h := h.2 c13
            obtain ⟨y12, ey12⟩ : ∃ z : Int32, z = x3 + 1 := ⟨_, rfl⟩
            have h := h y12 ey12
            refine lv_iinc (v := y12) (lv' := [(3, .int y12), (4, .ref (ad 5 w j6)), (0, .ref (ad 1 w 0)), (1, .int x1), (2, .int x2)]) hC.1 hC.2.1 dX7_lanesAt_49 hl (k := 4) rfl (by rw [ey12]; rfl) (by decide) rfl (fun ls hl => ?_)
            refine lv_goto (tgt := 4) hC.1 hC.2.1 dX7_lanesAt_52 (by decide) ?_
            exact kB4 _ _ _ _ _ _ h hS (lv_sub hl [2, 3, 4, 0] rfl)
          · have h := h.1 c13
            obtain ⟨y10, ey10⟩ : ∃ z : Int32, z = x2 + 1 := ⟨_, rfl⟩
            have h := h y10 ey10
            refine lv_iinc (v := y10) (lv' := [(2, .int y10), (4, .ref (ad 5 w j6)), (0, .ref (ad 1 w 0)), (1, .int x1), (3, .int x3)]) hC.1 hC.2.1 dX7_lanesAt_46 hl (k := 3) rfl (by rw [ey10]; rfl) (by decide) rfl (fun ls hl => ?_)
            obtain ⟨y11, ey11⟩ : ∃ z : Int32, z = x3 + 1 := ⟨_, rfl⟩
            have h := h y11 ey11
            refine lv_iinc (v := y11) (lv' := [(3, .int y11), (2, .int y10), (4, .ref (ad 5 w j6)), (0, .ref (ad 1 w 0)), (1, .int x1)]) hC.1 hC.2.1 dX7_lanesAt_49 hl (k := 4) rfl (by rw [ey11]; rfl) (by decide) rfl (fun ls hl => ?_)
            refine lv_goto (tgt := 4) hC.1 hC.2.1 dX7_lanesAt_52 (by decide) ?_
            exact kB4 _ _ _ _ _ _ h hS (lv_sub hl [3, 4, 1, 0] rfl)
  refine lv_iconst (v := 0) hC.1 hC.2.1 dX7_lanesAt_0 (by decide) ?_
  refine lv_istore_n (lv' := [(2, .int 0), (0, .ref (ad 1 w 0)), (1, .int a1)]) hC.1 hC.2.1 dX7_lanesAt_1 rfl hl (by decide) rfl (fun ls hl => ?_)
  refine lv_iconst (v := 0) hC.1 hC.2.1 dX7_lanesAt_2 (by decide) ?_
  refine lv_istore_n (lv' := [(3, .int 0), (2, .int 0), (0, .ref (ad 1 w 0)), (1, .int a1)]) hC.1 hC.2.1 dX7_lanesAt_3 rfl hl (by decide) rfl (fun ls hl => ?_)
  exact kT4 _ _ _ _ _ _ _ h hS (lv_sub hl [2, 3, 1, 0] rfl)
def wk_X7_readersWhoRead_4 (ks : List KY) (w : Nat) (a1 : Int32) (post : Int32 → VS → Prop) (B4 : Int32 → Int32 → VS → Prop) (x1 : Int32) (x2 : Int32) (x3 : Int32) (V : VS) : Prop := ((1, w, 0) ∈ ks ∧ (2, w, 3) ∈ ks ∧ ((V 2 w 3 2 0) ≤ x3 → (post x2 V)) ∧ (¬ ((V 2 w 3 2 0) ≤ x3) → ((3, w, 3) ∈ ks ∧ lsz V w 3 ≤ 33 ∧ (¬ x3 < 0 ∧ x3 < V 2 w 3 2 0) ∧ ∀ j6 : Nat, j6 = x3.toNatClampNeg → (7, w, j6) ∈ ks ∧ wp_X4_hasRead ks w j6 x1 V (fun r9 V8 => ((r9 = 0 → (∀ y10 : Int32, y10 = x3 + 1 → B4 x2 y10 V8)) ∧ (¬ (r9 = 0) → (∀ y11 : Int32, y11 = x2 + 1 → ∀ y12 : Int32, y12 = x3 + 1 → B4 y11 y12 V8)))))))
def wl_X7_readersWhoRead_4 (ks : List KY) (w : Nat) (a1 : Int32) (post : Int32 → VS → Prop) (x1 : Int32) (x2 : Int32) (x3 : Int32) (V : VS) : Prop := ∃ J : Nat → Int32 → Int32 → VS → Prop, (∃ n, J n x2 x3 V) ∧ ∀ (n : Nat) (x2 : Int32) (x3 : Int32) (V : VS), J n x2 x3 V → wk_X7_readersWhoRead_4 ks w a1 post (fun x2 x3 V => ∃ n', n' < n ∧ J n' x2 x3 V) x1 x2 x3 V
def wp_X7_readersWhoRead (ks : List KY) (w : Nat) (a1 : Int32) (V : VS) (post : Int32 → VS → Prop) : Prop := (wl_X7_readersWhoRead_4 ks w a1 post a1 0 0 V)
set_option maxHeartbeats 4000000 in
set_option maxRecDepth 100000 in
theorem c_X7_readersWhoRead (l : Launch) (G : GG) (ks : List KY) (ad : AD) (w : Nat) (a1 : Int32) (V : VS) (post : Int32 → VS → Prop) (h : wp_X7_readersWhoRead ks w a1 V post) (sz : Nat) : Met l yX7_readersWhoRead (ws_ yX7_readersWhoRead cX7_readersWhoRead 4 (some .int)) ({ frames := 3, cells := 0, slots := 0, locals := 64 }) (mPc [.ref (ad 1 w 0), .int a1] G ks ad V sz) (mQi post G ks ad sz) 0 0 (mA ks ad sz) := by
  refine g_met (own := RX7) (by decide) rfl (Nat.le_of_ble_eq_true rfl) ?_
  intro p e s m args below meth c ls hC hsz hr hlk hin hS ha hl
  have hl : lv_has ls 4 [(0, .ref (ad 1 w 0)), (1, .int a1)] := hl
  unfold wp_X7_readersWhoRead at h
  have kT4 : ∀ (x1 : Int32) (x2 : Int32) (x3 : Int32) (V : VS) (H : Heap) (locs : List Loc) (ls : Array Slot), wl_X7_readersWhoRead_4 ks w a1 post x1 x2 x3 V → ST G ks ad V (mA ks ad sz) s.heap H locs → lv_has ls 4 [(0, .ref (ad 1 w 0)), (1, .int x1), (2, .int x2), (3, .int x3)] → W p l e ({ frames := 3, cells := 0, slots := 0, locals := 64 } : Room) s m args below meth c H locs 0 0 (MQ below (mQi post G ks ad sz) args s 0 0 (mA ks ad sz)) (F0 m 4 ls []) := by
    intro x1 x2 x3 V H locs ls h hS hl
    obtain ⟨J, ⟨n, hJ⟩, hb⟩ := h
    induction n using Nat.strongRecOn generalizing x2 x3 V H locs ls with
    | _ n ih =>
      have h := hb n x2 x3 V hJ
      obtain ⟨B4, eB⟩ : ∃ z : Int32 → Int32 → VS → Prop, z = (fun x2 x3 V => ∃ n', n' < n ∧ J n' x2 x3 V) := ⟨_, rfl⟩
      rw [← eB] at h
      have kB4 : ∀ (x2 : Int32) (x3 : Int32) (V : VS) (H : Heap) (locs : List Loc) (ls : Array Slot), B4 x2 x3 V → ST G ks ad V (mA ks ad sz) s.heap H locs → lv_has ls 4 [(0, .ref (ad 1 w 0)), (1, .int x1), (2, .int x2), (3, .int x3)] → W p l e ({ frames := 3, cells := 0, slots := 0, locals := 64 } : Room) s m args below meth c H locs 0 0 (MQ below (mQi post G ks ad sz) args s 0 0 (mA ks ad sz)) (F0 m 4 ls []) := by
        intro x2 x3 V H locs ls h hS hl
        rw [eB] at h
        obtain ⟨n', hn, hJ'⟩ := h
        exact ih n' hn _ _ _ _ _ _ hS hl hJ'
      clear ih hJ hb eB
      unfold wk_X7_readersWhoRead_4 at h
      refine lv_iload_n hC.1 hC.2.1 dX7_readersWhoRead_4 rfl (lv_at hl 3 rfl) ?_
      refine lv_aload_n hC.1 hC.2.1 dX7_readersWhoRead_5 rfl (lv_at hl 0 rfl) ?_
      obtain ⟨hk1, h⟩ := h
      refine gf_1_3 hC hS hk1 wq_140 dX7_readersWhoRead_6 ?_
      obtain ⟨hk2, h⟩ := h
      refine g_lsize hC hS hk2 wq_183 hl ⟨Nat.le_of_ble_eq_true rfl, Nat.le_of_ble_eq_true rfl, Nat.zero_le _⟩ (Nat.le_of_ble_eq_true rfl) dX7_readersWhoRead_9 ⟨Nat.le_of_ble_eq_true rfl, Nat.le_of_ble_eq_true rfl⟩ (fun H locs hS => ?_)
      refine lv_icmp_ge (tgt := 42) hC.1 hC.2.1 dX7_readersWhoRead_12 (by decide) (fun c14 => ?_) (fun c14 => ?_)
      · have h := h.1 c14
        refine lv_iload_n hC.1 hC.2.1 dX7_readersWhoRead_42 rfl (lv_at hl 2 rfl) ?_
        exact g_iret hC hr hlk hS h dX7_readersWhoRead_43
      · have h := h.2 c14
        refine lv_aload_n hC.1 hC.2.1 dX7_readersWhoRead_15 rfl (lv_at hl 0 rfl) ?_
        refine gf_1_3 hC hS hk1 wq_140 dX7_readersWhoRead_16 ?_
        refine lv_iload_n hC.1 hC.2.1 dX7_readersWhoRead_19 rfl (lv_at hl 3 rfl) ?_
        obtain ⟨hk3, h⟩ := h
        obtain ⟨hq4, h⟩ := h
        obtain ⟨hx5, h⟩ := h
        refine g_lget (E := 7) hC hS rfl hk2 hk3 hq4 hx5.1 hx5.2 wq_187 hl ⟨Nat.le_of_ble_eq_true rfl, Nat.le_of_ble_eq_true rfl, Nat.zero_le _⟩ (Nat.le_of_ble_eq_true rfl) dX7_readersWhoRead_20 ⟨Nat.le_of_ble_eq_true rfl, Nat.le_of_ble_eq_true rfl⟩ (fun j6 ej6 H locs hS => ?_)
        have h := h j6 ej6
        obtain ⟨hk7, h⟩ := h
        refine g_cast hC hS hk7 rfl (show vwCl[5]? = some (RX4, TX4, 8) from rfl) wq_228 dX7_readersWhoRead_23 ?_
        refine lv_iload_n hC.1 hC.2.1 dX7_readersWhoRead_26 rfl (lv_at hl 1 rfl) ?_
        refine g_calli0 hS (g_runV (n := 1) (rest := []) (As := [.int x1]) (C := RX4) (T := TX4) (N := 8) hC hS hk7 rfl rfl (c_X4_hasRead l G ks ad w j6 x1 V _ h _) (gI wq_304 wq_305 wq_306 wq_64 wq_307) rfl ⟨⟨by decide +kernel, by decide +kernel, by decide +kernel⟩, rfl, rfl, Nat.le_of_ble_eq_true rfl, Nat.le_of_ble_eq_true rfl⟩ rfl hl rfl (Nat.le_of_ble_eq_true rfl) dX7_readersWhoRead_27 ⟨Nat.le_of_ble_eq_true rfl, Nat.le_of_ble_eq_true rfl⟩) (fun r9 V8 H locs h hS => ?_)
        refine lv_if_eq (tgt := 36) hC.1 hC.2.1 dX7_readersWhoRead_30 (by decide) (fun c13 => ?_) (fun c13 => ?_)
        · have h := h.1 c13
          obtain ⟨y10, ey10⟩ : ∃ z : Int32, z = x3 + 1 := ⟨_, rfl⟩
          have h := h y10 ey10
          refine lv_iinc (v := y10) (lv' := [(3, .int y10), (0, .ref (ad 1 w 0)), (1, .int x1), (2, .int x2)]) hC.1 hC.2.1 dX7_readersWhoRead_36 hl (k := 3) rfl (by rw [ey10]; rfl) (by decide) rfl (fun ls hl => ?_)
          refine lv_goto (tgt := 4) hC.1 hC.2.1 dX7_readersWhoRead_39 (by decide) ?_
          exact kB4 _ _ _ _ _ _ h hS (lv_sub hl [1, 2, 3, 0] rfl)
        · have h := h.2 c13
          obtain ⟨y11, ey11⟩ : ∃ z : Int32, z = x2 + 1 := ⟨_, rfl⟩
          have h := h y11 ey11
          refine lv_iinc (v := y11) (lv' := [(2, .int y11), (0, .ref (ad 1 w 0)), (1, .int x1), (3, .int x3)]) hC.1 hC.2.1 dX7_readersWhoRead_33 hl (k := 2) rfl (by rw [ey11]; rfl) (by decide) rfl (fun ls hl => ?_)
          obtain ⟨y12, ey12⟩ : ∃ z : Int32, z = x3 + 1 := ⟨_, rfl⟩
          have h := h y12 ey12
          refine lv_iinc (v := y12) (lv' := [(3, .int y12), (2, .int y11), (0, .ref (ad 1 w 0)), (1, .int x1)]) hC.1 hC.2.1 dX7_readersWhoRead_36 hl (k := 3) rfl (by rw [ey12]; rfl) (by decide) rfl (fun ls hl => ?_)
          refine lv_goto (tgt := 4) hC.1 hC.2.1 dX7_readersWhoRead_39 (by decide) ?_
          exact kB4 _ _ _ _ _ _ h hS (lv_sub hl [2, 3, 1, 0] rfl)
  refine lv_iconst (v := 0) hC.1 hC.2.1 dX7_readersWhoRead_0 (by decide) ?_
  refine lv_istore_n (lv' := [(2, .int 0), (0, .ref (ad 1 w 0)), (1, .int a1)]) hC.1 hC.2.1 dX7_readersWhoRead_1 rfl hl (by decide) rfl (fun ls hl => ?_)
  refine lv_iconst (v := 0) hC.1 hC.2.1 dX7_readersWhoRead_2 (by decide) ?_
  refine lv_istore_n (lv' := [(3, .int 0), (2, .int 0), (0, .ref (ad 1 w 0)), (1, .int a1)]) hC.1 hC.2.1 dX7_readersWhoRead_3 rfl hl (by decide) rfl (fun ls hl => ?_)
  exact kT4 _ _ _ _ _ _ _ h hS (lv_sub hl [2, 3, 1, 0] rfl)
def wk_X7_booksReservedBy_4 (ks : List KY) (w : Nat) (a1 : Int32) (post : Int32 → VS → Prop) (B4 : Int32 → Int32 → VS → Prop) (x1 : Int32) (x2 : Int32) (x3 : Int32) (V : VS) : Prop := ((1, w, 0) ∈ ks ∧ (2, w, 2) ∈ ks ∧ ((V 2 w 2 2 0) ≤ x3 → (post x2 V)) ∧ (¬ ((V 2 w 2 2 0) ≤ x3) → ((3, w, 2) ∈ ks ∧ lsz V w 2 ≤ 33 ∧ (¬ x3 < 0 ∧ x3 < V 2 w 2 2 0) ∧ ∀ j6 : Nat, j6 = x3.toNatClampNeg → (6, w, j6) ∈ ks ∧ (8, w, j6) ∈ ks ∧ wp_X3_placeOf ks w j6 x1 V (fun r10 V8 => ((r10 = (-1) → (∀ y11 : Int32, y11 = x3 + 1 → B4 x2 y11 V8)) ∧ (¬ (r10 = (-1)) → (∀ y12 : Int32, y12 = x2 + 1 → ∀ y13 : Int32, y13 = x3 + 1 → B4 y12 y13 V8)))))))
def wl_X7_booksReservedBy_4 (ks : List KY) (w : Nat) (a1 : Int32) (post : Int32 → VS → Prop) (x1 : Int32) (x2 : Int32) (x3 : Int32) (V : VS) : Prop := ∃ J : Nat → Int32 → Int32 → VS → Prop, (∃ n, J n x2 x3 V) ∧ ∀ (n : Nat) (x2 : Int32) (x3 : Int32) (V : VS), J n x2 x3 V → wk_X7_booksReservedBy_4 ks w a1 post (fun x2 x3 V => ∃ n', n' < n ∧ J n' x2 x3 V) x1 x2 x3 V
def wp_X7_booksReservedBy (ks : List KY) (w : Nat) (a1 : Int32) (V : VS) (post : Int32 → VS → Prop) : Prop := (wl_X7_booksReservedBy_4 ks w a1 post a1 0 0 V)
set_option maxHeartbeats 4000000 in
set_option maxRecDepth 100000 in
theorem c_X7_booksReservedBy (l : Launch) (G : GG) (ks : List KY) (ad : AD) (w : Nat) (a1 : Int32) (V : VS) (post : Int32 → VS → Prop) (h : wp_X7_booksReservedBy ks w a1 V post) (sz : Nat) : Met l yX7_booksReservedBy (ws_ yX7_booksReservedBy cX7_booksReservedBy 4 (some .int)) ({ frames := 3, cells := 0, slots := 0, locals := 64 }) (mPc [.ref (ad 1 w 0), .int a1] G ks ad V sz) (mQi post G ks ad sz) 0 0 (mA ks ad sz) := by
  refine g_met (own := RX7) (by decide) rfl (Nat.le_of_ble_eq_true rfl) ?_
  intro p e s m args below meth c ls hC hsz hr hlk hin hS ha hl
  have hl : lv_has ls 4 [(0, .ref (ad 1 w 0)), (1, .int a1)] := hl
  unfold wp_X7_booksReservedBy at h
  have kT4 : ∀ (x1 : Int32) (x2 : Int32) (x3 : Int32) (V : VS) (H : Heap) (locs : List Loc) (ls : Array Slot), wl_X7_booksReservedBy_4 ks w a1 post x1 x2 x3 V → ST G ks ad V (mA ks ad sz) s.heap H locs → lv_has ls 4 [(0, .ref (ad 1 w 0)), (1, .int x1), (2, .int x2), (3, .int x3)] → W p l e ({ frames := 3, cells := 0, slots := 0, locals := 64 } : Room) s m args below meth c H locs 0 0 (MQ below (mQi post G ks ad sz) args s 0 0 (mA ks ad sz)) (F0 m 4 ls []) := by
    intro x1 x2 x3 V H locs ls h hS hl
    obtain ⟨J, ⟨n, hJ⟩, hb⟩ := h
    induction n using Nat.strongRecOn generalizing x2 x3 V H locs ls with
    | _ n ih =>
      have h := hb n x2 x3 V hJ
      obtain ⟨B4, eB⟩ : ∃ z : Int32 → Int32 → VS → Prop, z = (fun x2 x3 V => ∃ n', n' < n ∧ J n' x2 x3 V) := ⟨_, rfl⟩
      rw [← eB] at h
      have kB4 : ∀ (x2 : Int32) (x3 : Int32) (V : VS) (H : Heap) (locs : List Loc) (ls : Array Slot), B4 x2 x3 V → ST G ks ad V (mA ks ad sz) s.heap H locs → lv_has ls 4 [(0, .ref (ad 1 w 0)), (1, .int x1), (2, .int x2), (3, .int x3)] → W p l e ({ frames := 3, cells := 0, slots := 0, locals := 64 } : Room) s m args below meth c H locs 0 0 (MQ below (mQi post G ks ad sz) args s 0 0 (mA ks ad sz)) (F0 m 4 ls []) := by
        intro x2 x3 V H locs ls h hS hl
        rw [eB] at h
        obtain ⟨n', hn, hJ'⟩ := h
        exact ih n' hn _ _ _ _ _ _ hS hl hJ'
      clear ih hJ hb eB
      unfold wk_X7_booksReservedBy_4 at h
      refine lv_iload_n hC.1 hC.2.1 dX7_booksReservedBy_4 rfl (lv_at hl 3 rfl) ?_
      refine lv_aload_n hC.1 hC.2.1 dX7_booksReservedBy_5 rfl (lv_at hl 0 rfl) ?_
      obtain ⟨hk1, h⟩ := h
      refine gf_1_2 hC hS hk1 wq_138 dX7_booksReservedBy_6 ?_
      obtain ⟨hk2, h⟩ := h
      refine g_lsize hC hS hk2 wq_183 hl ⟨Nat.le_of_ble_eq_true rfl, Nat.le_of_ble_eq_true rfl, Nat.zero_le _⟩ (Nat.le_of_ble_eq_true rfl) dX7_booksReservedBy_9 ⟨Nat.le_of_ble_eq_true rfl, Nat.le_of_ble_eq_true rfl⟩ (fun H locs hS => ?_)
      refine lv_icmp_ge (tgt := 46) hC.1 hC.2.1 dX7_booksReservedBy_12 (by decide) (fun c15 => ?_) (fun c15 => ?_)
      · have h := h.1 c15
        refine lv_iload_n hC.1 hC.2.1 dX7_booksReservedBy_46 rfl (lv_at hl 2 rfl) ?_
        exact g_iret hC hr hlk hS h dX7_booksReservedBy_47
      · have h := h.2 c15
        refine lv_aload_n hC.1 hC.2.1 dX7_booksReservedBy_15 rfl (lv_at hl 0 rfl) ?_
        refine gf_1_2 hC hS hk1 wq_138 dX7_booksReservedBy_16 ?_
        refine lv_iload_n hC.1 hC.2.1 dX7_booksReservedBy_19 rfl (lv_at hl 3 rfl) ?_
        obtain ⟨hk3, h⟩ := h
        obtain ⟨hq4, h⟩ := h
        obtain ⟨hx5, h⟩ := h
        refine g_lget (E := 6) hC hS rfl hk2 hk3 hq4 hx5.1 hx5.2 wq_187 hl ⟨Nat.le_of_ble_eq_true rfl, Nat.le_of_ble_eq_true rfl, Nat.zero_le _⟩ (Nat.le_of_ble_eq_true rfl) dX7_booksReservedBy_20 ⟨Nat.le_of_ble_eq_true rfl, Nat.le_of_ble_eq_true rfl⟩ (fun j6 ej6 H locs hS => ?_)
        have h := h j6 ej6
        obtain ⟨hk7, h⟩ := h
        refine g_cast hC hS hk7 rfl (show vwCl[1]? = some (RX0, TX0, 6) from rfl) wq_201 dX7_booksReservedBy_23 ?_
        refine gn_6_2 hC hS hk7 wq_684 dX7_booksReservedBy_26 ?_
        refine lv_iload_n hC.1 hC.2.1 dX7_booksReservedBy_29 rfl (lv_at hl 1 rfl) ?_
        obtain ⟨hk9, h⟩ := h
        refine g_calli0 hS (g_runV (n := 1) (rest := []) (As := [.int x1]) (C := RX3) (T := TX3) (N := 2) hC hS hk9 rfl rfl (c_X3_placeOf l G ks ad w j6 x1 V _ h _) (gI wq_326 wq_327 wq_328 wq_63 wq_329) rfl ⟨⟨by decide +kernel, by decide +kernel, by decide +kernel⟩, rfl, rfl, Nat.le_of_ble_eq_true rfl, Nat.le_of_ble_eq_true rfl⟩ rfl hl rfl (Nat.le_of_ble_eq_true rfl) dX7_booksReservedBy_30 ⟨Nat.le_of_ble_eq_true rfl, Nat.le_of_ble_eq_true rfl⟩) (fun r10 V8 H locs h hS => ?_)
        refine lv_iconst (v := (-1)) hC.1 hC.2.1 dX7_booksReservedBy_33 (by decide) ?_
        refine lv_icmp_eq (tgt := 40) hC.1 hC.2.1 dX7_booksReservedBy_34 (by decide) (fun c14 => ?_) (fun c14 => ?_)
        · have h := h.1 c14
          obtain ⟨y11, ey11⟩ : ∃ z : Int32, z = x3 + 1 := ⟨_, rfl⟩
          have h := h y11 ey11
          refine lv_iinc (v := y11) (lv' := [(3, .int y11), (0, .ref (ad 1 w 0)), (1, .int x1), (2, .int x2)]) hC.1 hC.2.1 dX7_booksReservedBy_40 hl (k := 3) rfl (by rw [ey11]; rfl) (by decide) rfl (fun ls hl => ?_)
          refine lv_goto (tgt := 4) hC.1 hC.2.1 dX7_booksReservedBy_43 (by decide) ?_
          exact kB4 _ _ _ _ _ _ h hS (lv_sub hl [1, 2, 3, 0] rfl)
        · have h := h.2 c14
          obtain ⟨y12, ey12⟩ : ∃ z : Int32, z = x2 + 1 := ⟨_, rfl⟩
          have h := h y12 ey12
          refine lv_iinc (v := y12) (lv' := [(2, .int y12), (0, .ref (ad 1 w 0)), (1, .int x1), (3, .int x3)]) hC.1 hC.2.1 dX7_booksReservedBy_37 hl (k := 2) rfl (by rw [ey12]; rfl) (by decide) rfl (fun ls hl => ?_)
          obtain ⟨y13, ey13⟩ : ∃ z : Int32, z = x3 + 1 := ⟨_, rfl⟩
          have h := h y13 ey13
          refine lv_iinc (v := y13) (lv' := [(3, .int y13), (2, .int y12), (0, .ref (ad 1 w 0)), (1, .int x1)]) hC.1 hC.2.1 dX7_booksReservedBy_40 hl (k := 3) rfl (by rw [ey13]; rfl) (by decide) rfl (fun ls hl => ?_)
          refine lv_goto (tgt := 4) hC.1 hC.2.1 dX7_booksReservedBy_43 (by decide) ?_
          exact kB4 _ _ _ _ _ _ h hS (lv_sub hl [2, 3, 1, 0] rfl)
  refine lv_iconst (v := 0) hC.1 hC.2.1 dX7_booksReservedBy_0 (by decide) ?_
  refine lv_istore_n (lv' := [(2, .int 0), (0, .ref (ad 1 w 0)), (1, .int a1)]) hC.1 hC.2.1 dX7_booksReservedBy_1 rfl hl (by decide) rfl (fun ls hl => ?_)
  refine lv_iconst (v := 0) hC.1 hC.2.1 dX7_booksReservedBy_2 (by decide) ?_
  refine lv_istore_n (lv' := [(3, .int 0), (2, .int 0), (0, .ref (ad 1 w 0)), (1, .int a1)]) hC.1 hC.2.1 dX7_booksReservedBy_3 rfl hl (by decide) rfl (fun ls hl => ?_)
  exact kT4 _ _ _ _ _ _ _ h hS (lv_sub hl [2, 3, 1, 0] rfl)
def wk_X7_booksOnVan_4 (ks : List KY) (w : Nat) (post : Int32 → VS → Prop) (B4 : Int32 → Int32 → VS → Prop) (x1 : Int32) (x2 : Int32) (V : VS) : Prop := ((1, w, 0) ∈ ks ∧ (2, w, 2) ∈ ks ∧ ((V 2 w 2 2 0) ≤ x2 → (post x1 V)) ∧ (¬ ((V 2 w 2 2 0) ≤ x2) → ((3, w, 2) ∈ ks ∧ lsz V w 2 ≤ 33 ∧ (¬ x2 < 0 ∧ x2 < V 2 w 2 2 0) ∧ ∀ j6 : Nat, j6 = x2.toNatClampNeg → (6, w, j6) ∈ ks ∧ wp_X0_isOnVan ks w j6 V (fun r9 V8 => ((r9 = 0 → (∀ y10 : Int32, y10 = x2 + 1 → B4 x1 y10 V8)) ∧ (¬ (r9 = 0) → (∀ y11 : Int32, y11 = x1 + 1 → ∀ y12 : Int32, y12 = x2 + 1 → B4 y11 y12 V8)))))))
def wl_X7_booksOnVan_4 (ks : List KY) (w : Nat) (post : Int32 → VS → Prop) (x1 : Int32) (x2 : Int32) (V : VS) : Prop := ∃ J : Nat → Int32 → Int32 → VS → Prop, (∃ n, J n x1 x2 V) ∧ ∀ (n : Nat) (x1 : Int32) (x2 : Int32) (V : VS), J n x1 x2 V → wk_X7_booksOnVan_4 ks w post (fun x1 x2 V => ∃ n', n' < n ∧ J n' x1 x2 V) x1 x2 V
def wp_X7_booksOnVan (ks : List KY) (w : Nat) (V : VS) (post : Int32 → VS → Prop) : Prop := (wl_X7_booksOnVan_4 ks w post 0 0 V)
set_option maxHeartbeats 4000000 in
set_option maxRecDepth 100000 in
theorem c_X7_booksOnVan (l : Launch) (G : GG) (ks : List KY) (ad : AD) (w : Nat) (V : VS) (post : Int32 → VS → Prop) (h : wp_X7_booksOnVan ks w V post) (sz : Nat) : Met l yX7_booksOnVan (ws_ yX7_booksOnVan cX7_booksOnVan 3 (some .int)) ({ frames := 3, cells := 0, slots := 0, locals := 64 }) (mPc [.ref (ad 1 w 0)] G ks ad V sz) (mQi post G ks ad sz) 0 0 (mA ks ad sz) := by
  refine g_met (own := RX7) (by decide) rfl (Nat.le_of_ble_eq_true rfl) ?_
  intro p e s m args below meth c ls hC hsz hr hlk hin hS ha hl
  have hl : lv_has ls 3 [(0, .ref (ad 1 w 0))] := hl
  unfold wp_X7_booksOnVan at h
  have kT4 : ∀ (x1 : Int32) (x2 : Int32) (V : VS) (H : Heap) (locs : List Loc) (ls : Array Slot), wl_X7_booksOnVan_4 ks w post x1 x2 V → ST G ks ad V (mA ks ad sz) s.heap H locs → lv_has ls 3 [(0, .ref (ad 1 w 0)), (1, .int x1), (2, .int x2)] → W p l e ({ frames := 3, cells := 0, slots := 0, locals := 64 } : Room) s m args below meth c H locs 0 0 (MQ below (mQi post G ks ad sz) args s 0 0 (mA ks ad sz)) (F0 m 4 ls []) := by
    intro x1 x2 V H locs ls h hS hl
    obtain ⟨J, ⟨n, hJ⟩, hb⟩ := h
    induction n using Nat.strongRecOn generalizing x1 x2 V H locs ls with
    | _ n ih =>
      have h := hb n x1 x2 V hJ
      obtain ⟨B4, eB⟩ : ∃ z : Int32 → Int32 → VS → Prop, z = (fun x1 x2 V => ∃ n', n' < n ∧ J n' x1 x2 V) := ⟨_, rfl⟩
      rw [← eB] at h
      have kB4 : ∀ (x1 : Int32) (x2 : Int32) (V : VS) (H : Heap) (locs : List Loc) (ls : Array Slot), B4 x1 x2 V → ST G ks ad V (mA ks ad sz) s.heap H locs → lv_has ls 3 [(0, .ref (ad 1 w 0)), (1, .int x1), (2, .int x2)] → W p l e ({ frames := 3, cells := 0, slots := 0, locals := 64 } : Room) s m args below meth c H locs 0 0 (MQ below (mQi post G ks ad sz) args s 0 0 (mA ks ad sz)) (F0 m 4 ls []) := by
        intro x1 x2 V H locs ls h hS hl
        rw [eB] at h
        obtain ⟨n', hn, hJ'⟩ := h
        exact ih n' hn _ _ _ _ _ _ hS hl hJ'
      clear ih hJ hb eB
      unfold wk_X7_booksOnVan_4 at h
      refine lv_iload_n hC.1 hC.2.1 dX7_booksOnVan_4 rfl (lv_at hl 2 rfl) ?_
      refine lv_aload_n hC.1 hC.2.1 dX7_booksOnVan_5 rfl (lv_at hl 0 rfl) ?_
      obtain ⟨hk1, h⟩ := h
      refine gf_1_2 hC hS hk1 wq_138 dX7_booksOnVan_6 ?_
      obtain ⟨hk2, h⟩ := h
      refine g_lsize hC hS hk2 wq_183 hl ⟨Nat.le_of_ble_eq_true rfl, Nat.le_of_ble_eq_true rfl, Nat.zero_le _⟩ (Nat.le_of_ble_eq_true rfl) dX7_booksOnVan_9 ⟨Nat.le_of_ble_eq_true rfl, Nat.le_of_ble_eq_true rfl⟩ (fun H locs hS => ?_)
      refine lv_icmp_ge (tgt := 41) hC.1 hC.2.1 dX7_booksOnVan_12 (by decide) (fun c14 => ?_) (fun c14 => ?_)
      · have h := h.1 c14
        refine lv_iload_n hC.1 hC.2.1 dX7_booksOnVan_41 rfl (lv_at hl 1 rfl) ?_
        exact g_iret hC hr hlk hS h dX7_booksOnVan_42
      · have h := h.2 c14
        refine lv_aload_n hC.1 hC.2.1 dX7_booksOnVan_15 rfl (lv_at hl 0 rfl) ?_
        refine gf_1_2 hC hS hk1 wq_138 dX7_booksOnVan_16 ?_
        refine lv_iload_n hC.1 hC.2.1 dX7_booksOnVan_19 rfl (lv_at hl 2 rfl) ?_
        obtain ⟨hk3, h⟩ := h
        obtain ⟨hq4, h⟩ := h
        obtain ⟨hx5, h⟩ := h
        refine g_lget (E := 6) hC hS rfl hk2 hk3 hq4 hx5.1 hx5.2 wq_187 hl ⟨Nat.le_of_ble_eq_true rfl, Nat.le_of_ble_eq_true rfl, Nat.zero_le _⟩ (Nat.le_of_ble_eq_true rfl) dX7_booksOnVan_20 ⟨Nat.le_of_ble_eq_true rfl, Nat.le_of_ble_eq_true rfl⟩ (fun j6 ej6 H locs hS => ?_)
        have h := h j6 ej6
        obtain ⟨hk7, h⟩ := h
        refine g_cast hC hS hk7 rfl (show vwCl[1]? = some (RX0, TX0, 6) from rfl) wq_201 dX7_booksOnVan_23 ?_
        refine g_calli0 hS (g_runV (n := 0) (rest := []) (As := []) (C := RX0) (T := TX0) (N := 6) hC hS hk7 rfl rfl (c_X0_isOnVan l G ks ad w j6 V _ h _) (gI wq_219 wq_220 wq_221 wq_62 wq_222) rfl ⟨⟨by decide +kernel, by decide +kernel, by decide +kernel⟩, rfl, rfl, Nat.le_of_ble_eq_true rfl, Nat.le_of_ble_eq_true rfl⟩ rfl hl rfl (Nat.le_of_ble_eq_true rfl) dX7_booksOnVan_26 ⟨Nat.le_of_ble_eq_true rfl, Nat.le_of_ble_eq_true rfl⟩) (fun r9 V8 H locs h hS => ?_)
        refine lv_if_eq (tgt := 35) hC.1 hC.2.1 dX7_booksOnVan_29 (by decide) (fun c13 => ?_) (fun c13 => ?_)
        · have h := h.1 c13
          obtain ⟨y10, ey10⟩ : ∃ z : Int32, z = x2 + 1 := ⟨_, rfl⟩
          have h := h y10 ey10
          refine lv_iinc (v := y10) (lv' := [(2, .int y10), (0, .ref (ad 1 w 0)), (1, .int x1)]) hC.1 hC.2.1 dX7_booksOnVan_35 hl (k := 2) rfl (by rw [ey10]; rfl) (by decide) rfl (fun ls hl => ?_)
          refine lv_goto (tgt := 4) hC.1 hC.2.1 dX7_booksOnVan_38 (by decide) ?_
          exact kB4 _ _ _ _ _ _ h hS (lv_sub hl [1, 2, 0] rfl)
        · have h := h.2 c13
          obtain ⟨y11, ey11⟩ : ∃ z : Int32, z = x1 + 1 := ⟨_, rfl⟩
          have h := h y11 ey11
          refine lv_iinc (v := y11) (lv' := [(1, .int y11), (0, .ref (ad 1 w 0)), (2, .int x2)]) hC.1 hC.2.1 dX7_booksOnVan_32 hl (k := 1) rfl (by rw [ey11]; rfl) (by decide) rfl (fun ls hl => ?_)
          obtain ⟨y12, ey12⟩ : ∃ z : Int32, z = x2 + 1 := ⟨_, rfl⟩
          have h := h y12 ey12
          refine lv_iinc (v := y12) (lv' := [(2, .int y12), (1, .int y11), (0, .ref (ad 1 w 0))]) hC.1 hC.2.1 dX7_booksOnVan_35 hl (k := 2) rfl (by rw [ey12]; rfl) (by decide) rfl (fun ls hl => ?_)
          refine lv_goto (tgt := 4) hC.1 hC.2.1 dX7_booksOnVan_38 (by decide) ?_
          exact kB4 _ _ _ _ _ _ h hS (lv_sub hl [2, 1, 0] rfl)
  refine lv_iconst (v := 0) hC.1 hC.2.1 dX7_booksOnVan_0 (by decide) ?_
  refine lv_istore_n (lv' := [(1, .int 0), (0, .ref (ad 1 w 0))]) hC.1 hC.2.1 dX7_booksOnVan_1 rfl hl (by decide) rfl (fun ls hl => ?_)
  refine lv_iconst (v := 0) hC.1 hC.2.1 dX7_booksOnVan_2 (by decide) ?_
  refine lv_istore_n (lv' := [(2, .int 0), (1, .int 0), (0, .ref (ad 1 w 0))]) hC.1 hC.2.1 dX7_booksOnVan_3 rfl hl (by decide) rfl (fun ls hl => ?_)
  exact kT4 _ _ _ _ _ _ h hS (lv_sub hl [2, 1, 0] rfl)
def wk_X7_loansOfAll_4 (ks : List KY) (w : Nat) (post : Int32 → VS → Prop) (B4 : Int32 → Int32 → VS → Prop) (x1 : Int32) (x2 : Int32) (V : VS) : Prop := ((1, w, 0) ∈ ks ∧ (2, w, 2) ∈ ks ∧ ((V 2 w 2 2 0) ≤ x2 → (post x1 V)) ∧ (¬ ((V 2 w 2 2 0) ≤ x2) → ((3, w, 2) ∈ ks ∧ lsz V w 2 ≤ 33 ∧ (¬ x2 < 0 ∧ x2 < V 2 w 2 2 0) ∧ ∀ j6 : Nat, j6 = x2.toNatClampNeg → (6, w, j6) ∈ ks ∧ ∀ y8 : Int32, y8 = x1 + (V 6 w j6 5 0) → ∀ y9 : Int32, y9 = x2 + 1 → B4 y8 y9 V)))
def wl_X7_loansOfAll_4 (ks : List KY) (w : Nat) (post : Int32 → VS → Prop) (x1 : Int32) (x2 : Int32) (V : VS) : Prop := ∃ J : Nat → Int32 → Int32 → VS → Prop, (∃ n, J n x1 x2 V) ∧ ∀ (n : Nat) (x1 : Int32) (x2 : Int32) (V : VS), J n x1 x2 V → wk_X7_loansOfAll_4 ks w post (fun x1 x2 V => ∃ n', n' < n ∧ J n' x1 x2 V) x1 x2 V
def wp_X7_loansOfAll (ks : List KY) (w : Nat) (V : VS) (post : Int32 → VS → Prop) : Prop := (wl_X7_loansOfAll_4 ks w post 0 0 V)
set_option maxHeartbeats 4000000 in
set_option maxRecDepth 100000 in
theorem c_X7_loansOfAll (l : Launch) (G : GG) (ks : List KY) (ad : AD) (w : Nat) (V : VS) (post : Int32 → VS → Prop) (h : wp_X7_loansOfAll ks w V post) (sz : Nat) : Met l yX7_loansOfAll (ws_ yX7_loansOfAll cX7_loansOfAll 3 (some .int)) ({ frames := 3, cells := 0, slots := 0, locals := 64 }) (mPc [.ref (ad 1 w 0)] G ks ad V sz) (mQi post G ks ad sz) 0 0 (mA ks ad sz) := by
  refine g_met (own := RX7) (by decide) rfl (Nat.le_of_ble_eq_true rfl) ?_
  intro p e s m args below meth c ls hC hsz hr hlk hin hS ha hl
  have hl : lv_has ls 3 [(0, .ref (ad 1 w 0))] := hl
  unfold wp_X7_loansOfAll at h
  have kT4 : ∀ (x1 : Int32) (x2 : Int32) (V : VS) (H : Heap) (locs : List Loc) (ls : Array Slot), wl_X7_loansOfAll_4 ks w post x1 x2 V → ST G ks ad V (mA ks ad sz) s.heap H locs → lv_has ls 3 [(0, .ref (ad 1 w 0)), (1, .int x1), (2, .int x2)] → W p l e ({ frames := 3, cells := 0, slots := 0, locals := 64 } : Room) s m args below meth c H locs 0 0 (MQ below (mQi post G ks ad sz) args s 0 0 (mA ks ad sz)) (F0 m 4 ls []) := by
    intro x1 x2 V H locs ls h hS hl
    obtain ⟨J, ⟨n, hJ⟩, hb⟩ := h
    induction n using Nat.strongRecOn generalizing x1 x2 V H locs ls with
    | _ n ih =>
      have h := hb n x1 x2 V hJ
      obtain ⟨B4, eB⟩ : ∃ z : Int32 → Int32 → VS → Prop, z = (fun x1 x2 V => ∃ n', n' < n ∧ J n' x1 x2 V) := ⟨_, rfl⟩
      rw [← eB] at h
      have kB4 : ∀ (x1 : Int32) (x2 : Int32) (V : VS) (H : Heap) (locs : List Loc) (ls : Array Slot), B4 x1 x2 V → ST G ks ad V (mA ks ad sz) s.heap H locs → lv_has ls 3 [(0, .ref (ad 1 w 0)), (1, .int x1), (2, .int x2)] → W p l e ({ frames := 3, cells := 0, slots := 0, locals := 64 } : Room) s m args below meth c H locs 0 0 (MQ below (mQi post G ks ad sz) args s 0 0 (mA ks ad sz)) (F0 m 4 ls []) := by
        intro x1 x2 V H locs ls h hS hl
        rw [eB] at h
        obtain ⟨n', hn, hJ'⟩ := h
        exact ih n' hn _ _ _ _ _ _ hS hl hJ'
      clear ih hJ hb eB
      unfold wk_X7_loansOfAll_4 at h
      refine lv_iload_n hC.1 hC.2.1 dX7_loansOfAll_4 rfl (lv_at hl 2 rfl) ?_
      refine lv_aload_n hC.1 hC.2.1 dX7_loansOfAll_5 rfl (lv_at hl 0 rfl) ?_
      obtain ⟨hk1, h⟩ := h
      refine gf_1_2 hC hS hk1 wq_138 dX7_loansOfAll_6 ?_
      obtain ⟨hk2, h⟩ := h
      refine g_lsize hC hS hk2 wq_183 hl ⟨Nat.le_of_ble_eq_true rfl, Nat.le_of_ble_eq_true rfl, Nat.zero_le _⟩ (Nat.le_of_ble_eq_true rfl) dX7_loansOfAll_9 ⟨Nat.le_of_ble_eq_true rfl, Nat.le_of_ble_eq_true rfl⟩ (fun H locs hS => ?_)
      refine lv_icmp_ge (tgt := 38) hC.1 hC.2.1 dX7_loansOfAll_12 (by decide) (fun c10 => ?_) (fun c10 => ?_)
      · have h := h.1 c10
        refine lv_iload_n hC.1 hC.2.1 dX7_loansOfAll_38 rfl (lv_at hl 1 rfl) ?_
        exact g_iret hC hr hlk hS h dX7_loansOfAll_39
      · have h := h.2 c10
        refine lv_iload_n hC.1 hC.2.1 dX7_loansOfAll_15 rfl (lv_at hl 1 rfl) ?_
        refine lv_aload_n hC.1 hC.2.1 dX7_loansOfAll_16 rfl (lv_at hl 0 rfl) ?_
        refine gf_1_2 hC hS hk1 wq_138 dX7_loansOfAll_17 ?_
        refine lv_iload_n hC.1 hC.2.1 dX7_loansOfAll_20 rfl (lv_at hl 2 rfl) ?_
        obtain ⟨hk3, h⟩ := h
        obtain ⟨hq4, h⟩ := h
        obtain ⟨hx5, h⟩ := h
        refine g_lget (E := 6) hC hS rfl hk2 hk3 hq4 hx5.1 hx5.2 wq_187 hl ⟨Nat.le_of_ble_eq_true rfl, Nat.le_of_ble_eq_true rfl, Nat.zero_le _⟩ (Nat.le_of_ble_eq_true rfl) dX7_loansOfAll_21 ⟨Nat.le_of_ble_eq_true rfl, Nat.le_of_ble_eq_true rfl⟩ (fun j6 ej6 H locs hS => ?_)
        have h := h j6 ej6
        obtain ⟨hk7, h⟩ := h
        refine g_cast hC hS hk7 rfl (show vwCl[1]? = some (RX0, TX0, 6) from rfl) wq_201 dX7_loansOfAll_24 ?_
        refine gn_6_5 hC hS hk7 wq_691 dX7_loansOfAll_27 ?_
        refine lv_iadd hC.1 hC.2.1 dX7_loansOfAll_30 ?_
        refine lv_topi (fun y8 ey8 => ?_)
        have h := h y8 ey8
        refine lv_istore_n (lv' := [(1, .int y8), (0, .ref (ad 1 w 0)), (2, .int x2)]) hC.1 hC.2.1 dX7_loansOfAll_31 rfl hl (by decide) rfl (fun ls hl => ?_)
        obtain ⟨y9, ey9⟩ : ∃ z : Int32, z = x2 + 1 := ⟨_, rfl⟩
        have h := h y9 ey9
        refine lv_iinc (v := y9) (lv' := [(2, .int y9), (1, .int y8), (0, .ref (ad 1 w 0))]) hC.1 hC.2.1 dX7_loansOfAll_32 hl (k := 2) rfl (by rw [ey9]; rfl) (by decide) rfl (fun ls hl => ?_)
        refine lv_goto (tgt := 4) hC.1 hC.2.1 dX7_loansOfAll_35 (by decide) ?_
        exact kB4 _ _ _ _ _ _ h hS (lv_sub hl [2, 1, 0] rfl)
  refine lv_iconst (v := 0) hC.1 hC.2.1 dX7_loansOfAll_0 (by decide) ?_
  refine lv_istore_n (lv' := [(1, .int 0), (0, .ref (ad 1 w 0))]) hC.1 hC.2.1 dX7_loansOfAll_1 rfl hl (by decide) rfl (fun ls hl => ?_)
  refine lv_iconst (v := 0) hC.1 hC.2.1 dX7_loansOfAll_2 (by decide) ?_
  refine lv_istore_n (lv' := [(2, .int 0), (1, .int 0), (0, .ref (ad 1 w 0))]) hC.1 hC.2.1 dX7_loansOfAll_3 rfl hl (by decide) rfl (fun ls hl => ?_)
  exact kT4 _ _ _ _ _ _ h hS (lv_sub hl [2, 1, 0] rfl)
def wk_X7_missesOfAll_4 (ks : List KY) (w : Nat) (post : Int32 → VS → Prop) (B4 : Int32 → Int32 → VS → Prop) (x1 : Int32) (x2 : Int32) (V : VS) : Prop := ((1, w, 0) ∈ ks ∧ (2, w, 0) ∈ ks ∧ ((V 2 w 0 2 0) ≤ x2 → (post x1 V)) ∧ (¬ ((V 2 w 0 2 0) ≤ x2) → ((3, w, 0) ∈ ks ∧ lsz V w 0 ≤ 33 ∧ (¬ x2 < 0 ∧ x2 < V 2 w 0 2 0) ∧ ∀ j6 : Nat, j6 = x2.toNatClampNeg → (4, w, j6) ∈ ks ∧ ∀ y8 : Int32, y8 = x1 + (V 4 w j6 1 0) → ∀ y9 : Int32, y9 = x2 + 1 → B4 y8 y9 V)))
def wl_X7_missesOfAll_4 (ks : List KY) (w : Nat) (post : Int32 → VS → Prop) (x1 : Int32) (x2 : Int32) (V : VS) : Prop := ∃ J : Nat → Int32 → Int32 → VS → Prop, (∃ n, J n x1 x2 V) ∧ ∀ (n : Nat) (x1 : Int32) (x2 : Int32) (V : VS), J n x1 x2 V → wk_X7_missesOfAll_4 ks w post (fun x1 x2 V => ∃ n', n' < n ∧ J n' x1 x2 V) x1 x2 V
def wp_X7_missesOfAll (ks : List KY) (w : Nat) (V : VS) (post : Int32 → VS → Prop) : Prop := (wl_X7_missesOfAll_4 ks w post 0 0 V)
set_option maxHeartbeats 4000000 in
set_option maxRecDepth 100000 in
theorem c_X7_missesOfAll (l : Launch) (G : GG) (ks : List KY) (ad : AD) (w : Nat) (V : VS) (post : Int32 → VS → Prop) (h : wp_X7_missesOfAll ks w V post) (sz : Nat) : Met l yX7_missesOfAll (ws_ yX7_missesOfAll cX7_missesOfAll 3 (some .int)) ({ frames := 3, cells := 0, slots := 0, locals := 64 }) (mPc [.ref (ad 1 w 0)] G ks ad V sz) (mQi post G ks ad sz) 0 0 (mA ks ad sz) := by
  refine g_met (own := RX7) (by decide) rfl (Nat.le_of_ble_eq_true rfl) ?_
  intro p e s m args below meth c ls hC hsz hr hlk hin hS ha hl
  have hl : lv_has ls 3 [(0, .ref (ad 1 w 0))] := hl
  unfold wp_X7_missesOfAll at h
  have kT4 : ∀ (x1 : Int32) (x2 : Int32) (V : VS) (H : Heap) (locs : List Loc) (ls : Array Slot), wl_X7_missesOfAll_4 ks w post x1 x2 V → ST G ks ad V (mA ks ad sz) s.heap H locs → lv_has ls 3 [(0, .ref (ad 1 w 0)), (1, .int x1), (2, .int x2)] → W p l e ({ frames := 3, cells := 0, slots := 0, locals := 64 } : Room) s m args below meth c H locs 0 0 (MQ below (mQi post G ks ad sz) args s 0 0 (mA ks ad sz)) (F0 m 4 ls []) := by
    intro x1 x2 V H locs ls h hS hl
    obtain ⟨J, ⟨n, hJ⟩, hb⟩ := h
    induction n using Nat.strongRecOn generalizing x1 x2 V H locs ls with
    | _ n ih =>
      have h := hb n x1 x2 V hJ
      obtain ⟨B4, eB⟩ : ∃ z : Int32 → Int32 → VS → Prop, z = (fun x1 x2 V => ∃ n', n' < n ∧ J n' x1 x2 V) := ⟨_, rfl⟩
      rw [← eB] at h
      have kB4 : ∀ (x1 : Int32) (x2 : Int32) (V : VS) (H : Heap) (locs : List Loc) (ls : Array Slot), B4 x1 x2 V → ST G ks ad V (mA ks ad sz) s.heap H locs → lv_has ls 3 [(0, .ref (ad 1 w 0)), (1, .int x1), (2, .int x2)] → W p l e ({ frames := 3, cells := 0, slots := 0, locals := 64 } : Room) s m args below meth c H locs 0 0 (MQ below (mQi post G ks ad sz) args s 0 0 (mA ks ad sz)) (F0 m 4 ls []) := by
        intro x1 x2 V H locs ls h hS hl
        rw [eB] at h
        obtain ⟨n', hn, hJ'⟩ := h
        exact ih n' hn _ _ _ _ _ _ hS hl hJ'
      clear ih hJ hb eB
      unfold wk_X7_missesOfAll_4 at h
      refine lv_iload_n hC.1 hC.2.1 dX7_missesOfAll_4 rfl (lv_at hl 2 rfl) ?_
      refine lv_aload_n hC.1 hC.2.1 dX7_missesOfAll_5 rfl (lv_at hl 0 rfl) ?_
      obtain ⟨hk1, h⟩ := h
      refine gf_1_0 hC hS hk1 wq_134 dX7_missesOfAll_6 ?_
      obtain ⟨hk2, h⟩ := h
      refine g_lsize hC hS hk2 wq_183 hl ⟨Nat.le_of_ble_eq_true rfl, Nat.le_of_ble_eq_true rfl, Nat.zero_le _⟩ (Nat.le_of_ble_eq_true rfl) dX7_missesOfAll_9 ⟨Nat.le_of_ble_eq_true rfl, Nat.le_of_ble_eq_true rfl⟩ (fun H locs hS => ?_)
      refine lv_icmp_ge (tgt := 38) hC.1 hC.2.1 dX7_missesOfAll_12 (by decide) (fun c10 => ?_) (fun c10 => ?_)
      · have h := h.1 c10
        refine lv_iload_n hC.1 hC.2.1 dX7_missesOfAll_38 rfl (lv_at hl 1 rfl) ?_
        exact g_iret hC hr hlk hS h dX7_missesOfAll_39
      · have h := h.2 c10
        refine lv_iload_n hC.1 hC.2.1 dX7_missesOfAll_15 rfl (lv_at hl 1 rfl) ?_
        refine lv_aload_n hC.1 hC.2.1 dX7_missesOfAll_16 rfl (lv_at hl 0 rfl) ?_
        refine gf_1_0 hC hS hk1 wq_134 dX7_missesOfAll_17 ?_
        refine lv_iload_n hC.1 hC.2.1 dX7_missesOfAll_20 rfl (lv_at hl 2 rfl) ?_
        obtain ⟨hk3, h⟩ := h
        obtain ⟨hq4, h⟩ := h
        obtain ⟨hx5, h⟩ := h
        refine g_lget (E := 4) hC hS rfl hk2 hk3 hq4 hx5.1 hx5.2 wq_187 hl ⟨Nat.le_of_ble_eq_true rfl, Nat.le_of_ble_eq_true rfl, Nat.zero_le _⟩ (Nat.le_of_ble_eq_true rfl) dX7_missesOfAll_21 ⟨Nat.le_of_ble_eq_true rfl, Nat.le_of_ble_eq_true rfl⟩ (fun j6 ej6 H locs hS => ?_)
        have h := h j6 ej6
        obtain ⟨hk7, h⟩ := h
        refine g_cast hC hS hk7 rfl (show vwCl[2]? = some (RX1, TX1, 2) from rfl) wq_262 dX7_missesOfAll_24 ?_
        refine gn_4_1 hC hS hk7 wq_416 dX7_missesOfAll_27 ?_
        refine lv_iadd hC.1 hC.2.1 dX7_missesOfAll_30 ?_
        refine lv_topi (fun y8 ey8 => ?_)
        have h := h y8 ey8
        refine lv_istore_n (lv' := [(1, .int y8), (0, .ref (ad 1 w 0)), (2, .int x2)]) hC.1 hC.2.1 dX7_missesOfAll_31 rfl hl (by decide) rfl (fun ls hl => ?_)
        obtain ⟨y9, ey9⟩ : ∃ z : Int32, z = x2 + 1 := ⟨_, rfl⟩
        have h := h y9 ey9
        refine lv_iinc (v := y9) (lv' := [(2, .int y9), (1, .int y8), (0, .ref (ad 1 w 0))]) hC.1 hC.2.1 dX7_missesOfAll_32 hl (k := 2) rfl (by rw [ey9]; rfl) (by decide) rfl (fun ls hl => ?_)
        refine lv_goto (tgt := 4) hC.1 hC.2.1 dX7_missesOfAll_35 (by decide) ?_
        exact kB4 _ _ _ _ _ _ h hS (lv_sub hl [2, 1, 0] rfl)
  refine lv_iconst (v := 0) hC.1 hC.2.1 dX7_missesOfAll_0 (by decide) ?_
  refine lv_istore_n (lv' := [(1, .int 0), (0, .ref (ad 1 w 0))]) hC.1 hC.2.1 dX7_missesOfAll_1 rfl hl (by decide) rfl (fun ls hl => ?_)
  refine lv_iconst (v := 0) hC.1 hC.2.1 dX7_missesOfAll_2 (by decide) ?_
  refine lv_istore_n (lv' := [(2, .int 0), (1, .int 0), (0, .ref (ad 1 w 0))]) hC.1 hC.2.1 dX7_missesOfAll_3 rfl hl (by decide) rfl (fun ls hl => ?_)
  exact kT4 _ _ _ _ _ _ h hS (lv_sub hl [2, 1, 0] rfl)
def wk_X7_penceOfAll_4 (ks : List KY) (w : Nat) (post : Int32 → VS → Prop) (B4 : Int32 → Int32 → VS → Prop) (x1 : Int32) (x2 : Int32) (V : VS) : Prop := ((1, w, 0) ∈ ks ∧ (2, w, 3) ∈ ks ∧ ((V 2 w 3 2 0) ≤ x2 → (post x1 V)) ∧ (¬ ((V 2 w 3 2 0) ≤ x2) → ((3, w, 3) ∈ ks ∧ lsz V w 3 ≤ 33 ∧ (¬ x2 < 0 ∧ x2 < V 2 w 3 2 0) ∧ ∀ j6 : Nat, j6 = x2.toNatClampNeg → (7, w, j6) ∈ ks ∧ ∀ y8 : Int32, y8 = x1 + (V 7 w j6 6 0) → ∀ y9 : Int32, y9 = x2 + 1 → B4 y8 y9 V)))
def wl_X7_penceOfAll_4 (ks : List KY) (w : Nat) (post : Int32 → VS → Prop) (x1 : Int32) (x2 : Int32) (V : VS) : Prop := ∃ J : Nat → Int32 → Int32 → VS → Prop, (∃ n, J n x1 x2 V) ∧ ∀ (n : Nat) (x1 : Int32) (x2 : Int32) (V : VS), J n x1 x2 V → wk_X7_penceOfAll_4 ks w post (fun x1 x2 V => ∃ n', n' < n ∧ J n' x1 x2 V) x1 x2 V
def wp_X7_penceOfAll (ks : List KY) (w : Nat) (V : VS) (post : Int32 → VS → Prop) : Prop := (wl_X7_penceOfAll_4 ks w post 0 0 V)
set_option maxHeartbeats 4000000 in
set_option maxRecDepth 100000 in
theorem c_X7_penceOfAll (l : Launch) (G : GG) (ks : List KY) (ad : AD) (w : Nat) (V : VS) (post : Int32 → VS → Prop) (h : wp_X7_penceOfAll ks w V post) (sz : Nat) : Met l yX7_penceOfAll (ws_ yX7_penceOfAll cX7_penceOfAll 3 (some .int)) ({ frames := 3, cells := 0, slots := 0, locals := 64 }) (mPc [.ref (ad 1 w 0)] G ks ad V sz) (mQi post G ks ad sz) 0 0 (mA ks ad sz) := by
  refine g_met (own := RX7) (by decide) rfl (Nat.le_of_ble_eq_true rfl) ?_
  intro p e s m args below meth c ls hC hsz hr hlk hin hS ha hl
  have hl : lv_has ls 3 [(0, .ref (ad 1 w 0))] := hl
  unfold wp_X7_penceOfAll at h
  have kT4 : ∀ (x1 : Int32) (x2 : Int32) (V : VS) (H : Heap) (locs : List Loc) (ls : Array Slot), wl_X7_penceOfAll_4 ks w post x1 x2 V → ST G ks ad V (mA ks ad sz) s.heap H locs → lv_has ls 3 [(0, .ref (ad 1 w 0)), (1, .int x1), (2, .int x2)] → W p l e ({ frames := 3, cells := 0, slots := 0, locals := 64 } : Room) s m args below meth c H locs 0 0 (MQ below (mQi post G ks ad sz) args s 0 0 (mA ks ad sz)) (F0 m 4 ls []) := by
    intro x1 x2 V H locs ls h hS hl
    obtain ⟨J, ⟨n, hJ⟩, hb⟩ := h
    induction n using Nat.strongRecOn generalizing x1 x2 V H locs ls with
    | _ n ih =>
      have h := hb n x1 x2 V hJ
      obtain ⟨B4, eB⟩ : ∃ z : Int32 → Int32 → VS → Prop, z = (fun x1 x2 V => ∃ n', n' < n ∧ J n' x1 x2 V) := ⟨_, rfl⟩
      rw [← eB] at h
      have kB4 : ∀ (x1 : Int32) (x2 : Int32) (V : VS) (H : Heap) (locs : List Loc) (ls : Array Slot), B4 x1 x2 V → ST G ks ad V (mA ks ad sz) s.heap H locs → lv_has ls 3 [(0, .ref (ad 1 w 0)), (1, .int x1), (2, .int x2)] → W p l e ({ frames := 3, cells := 0, slots := 0, locals := 64 } : Room) s m args below meth c H locs 0 0 (MQ below (mQi post G ks ad sz) args s 0 0 (mA ks ad sz)) (F0 m 4 ls []) := by
        intro x1 x2 V H locs ls h hS hl
        rw [eB] at h
        obtain ⟨n', hn, hJ'⟩ := h
        exact ih n' hn _ _ _ _ _ _ hS hl hJ'
      clear ih hJ hb eB
      unfold wk_X7_penceOfAll_4 at h
      refine lv_iload_n hC.1 hC.2.1 dX7_penceOfAll_4 rfl (lv_at hl 2 rfl) ?_
      refine lv_aload_n hC.1 hC.2.1 dX7_penceOfAll_5 rfl (lv_at hl 0 rfl) ?_
      obtain ⟨hk1, h⟩ := h
      refine gf_1_3 hC hS hk1 wq_140 dX7_penceOfAll_6 ?_
      obtain ⟨hk2, h⟩ := h
      refine g_lsize hC hS hk2 wq_183 hl ⟨Nat.le_of_ble_eq_true rfl, Nat.le_of_ble_eq_true rfl, Nat.zero_le _⟩ (Nat.le_of_ble_eq_true rfl) dX7_penceOfAll_9 ⟨Nat.le_of_ble_eq_true rfl, Nat.le_of_ble_eq_true rfl⟩ (fun H locs hS => ?_)
      refine lv_icmp_ge (tgt := 38) hC.1 hC.2.1 dX7_penceOfAll_12 (by decide) (fun c10 => ?_) (fun c10 => ?_)
      · have h := h.1 c10
        refine lv_iload_n hC.1 hC.2.1 dX7_penceOfAll_38 rfl (lv_at hl 1 rfl) ?_
        exact g_iret hC hr hlk hS h dX7_penceOfAll_39
      · have h := h.2 c10
        refine lv_iload_n hC.1 hC.2.1 dX7_penceOfAll_15 rfl (lv_at hl 1 rfl) ?_
        refine lv_aload_n hC.1 hC.2.1 dX7_penceOfAll_16 rfl (lv_at hl 0 rfl) ?_
        refine gf_1_3 hC hS hk1 wq_140 dX7_penceOfAll_17 ?_
        refine lv_iload_n hC.1 hC.2.1 dX7_penceOfAll_20 rfl (lv_at hl 2 rfl) ?_
        obtain ⟨hk3, h⟩ := h
        obtain ⟨hq4, h⟩ := h
        obtain ⟨hx5, h⟩ := h
        refine g_lget (E := 7) hC hS rfl hk2 hk3 hq4 hx5.1 hx5.2 wq_187 hl ⟨Nat.le_of_ble_eq_true rfl, Nat.le_of_ble_eq_true rfl, Nat.zero_le _⟩ (Nat.le_of_ble_eq_true rfl) dX7_penceOfAll_21 ⟨Nat.le_of_ble_eq_true rfl, Nat.le_of_ble_eq_true rfl⟩ (fun j6 ej6 H locs hS => ?_)
        have h := h j6 ej6
        obtain ⟨hk7, h⟩ := h
        refine g_cast hC hS hk7 rfl (show vwCl[5]? = some (RX4, TX4, 8) from rfl) wq_228 dX7_penceOfAll_24 ?_
        refine gn_7_6 hC hS hk7 wq_737 dX7_penceOfAll_27 ?_
        refine lv_iadd hC.1 hC.2.1 dX7_penceOfAll_30 ?_
        refine lv_topi (fun y8 ey8 => ?_)
        have h := h y8 ey8
        refine lv_istore_n (lv' := [(1, .int y8), (0, .ref (ad 1 w 0)), (2, .int x2)]) hC.1 hC.2.1 dX7_penceOfAll_31 rfl hl (by decide) rfl (fun ls hl => ?_)
        obtain ⟨y9, ey9⟩ : ∃ z : Int32, z = x2 + 1 := ⟨_, rfl⟩
        have h := h y9 ey9
        refine lv_iinc (v := y9) (lv' := [(2, .int y9), (1, .int y8), (0, .ref (ad 1 w 0))]) hC.1 hC.2.1 dX7_penceOfAll_32 hl (k := 2) rfl (by rw [ey9]; rfl) (by decide) rfl (fun ls hl => ?_)
        refine lv_goto (tgt := 4) hC.1 hC.2.1 dX7_penceOfAll_35 (by decide) ?_
        exact kB4 _ _ _ _ _ _ h hS (lv_sub hl [2, 1, 0] rfl)
  refine lv_iconst (v := 0) hC.1 hC.2.1 dX7_penceOfAll_0 (by decide) ?_
  refine lv_istore_n (lv' := [(1, .int 0), (0, .ref (ad 1 w 0))]) hC.1 hC.2.1 dX7_penceOfAll_1 rfl hl (by decide) rfl (fun ls hl => ?_)
  refine lv_iconst (v := 0) hC.1 hC.2.1 dX7_penceOfAll_2 (by decide) ?_
  refine lv_istore_n (lv' := [(2, .int 0), (1, .int 0), (0, .ref (ad 1 w 0))]) hC.1 hC.2.1 dX7_penceOfAll_3 rfl hl (by decide) rfl (fun ls hl => ?_)
  exact kT4 _ _ _ _ _ _ h hS (lv_sub hl [2, 1, 0] rfl)
def wk_X7_lanesTooMuddy_4 (ks : List KY) (w : Nat) (post : Int32 → VS → Prop) (B4 : Int32 → Int32 → VS → Prop) (x1 : Int32) (x2 : Int32) (V : VS) : Prop := ((1, w, 0) ∈ ks ∧ (2, w, 1) ∈ ks ∧ ((V 2 w 1 2 0) ≤ x2 → (post x1 V)) ∧ (¬ ((V 2 w 1 2 0) ≤ x2) → ((3, w, 1) ∈ ks ∧ lsz V w 1 ≤ 33 ∧ (¬ x2 < 0 ∧ x2 < V 2 w 1 2 0) ∧ ∀ j6 : Nat, j6 = x2.toNatClampNeg → (5, w, j6) ∈ ks ∧ wp_X2_isUsable ks w j6 V (fun r9 V8 => ((r9 = 0 → (∀ y10 : Int32, y10 = x1 + 1 → ∀ y11 : Int32, y11 = x2 + 1 → B4 y10 y11 V8)) ∧ (¬ (r9 = 0) → (∀ y12 : Int32, y12 = x2 + 1 → B4 x1 y12 V8)))))))
def wl_X7_lanesTooMuddy_4 (ks : List KY) (w : Nat) (post : Int32 → VS → Prop) (x1 : Int32) (x2 : Int32) (V : VS) : Prop := ∃ J : Nat → Int32 → Int32 → VS → Prop, (∃ n, J n x1 x2 V) ∧ ∀ (n : Nat) (x1 : Int32) (x2 : Int32) (V : VS), J n x1 x2 V → wk_X7_lanesTooMuddy_4 ks w post (fun x1 x2 V => ∃ n', n' < n ∧ J n' x1 x2 V) x1 x2 V
def wp_X7_lanesTooMuddy (ks : List KY) (w : Nat) (V : VS) (post : Int32 → VS → Prop) : Prop := (wl_X7_lanesTooMuddy_4 ks w post 0 0 V)
set_option maxHeartbeats 4000000 in
set_option maxRecDepth 100000 in
theorem c_X7_lanesTooMuddy (l : Launch) (G : GG) (ks : List KY) (ad : AD) (w : Nat) (V : VS) (post : Int32 → VS → Prop) (h : wp_X7_lanesTooMuddy ks w V post) (sz : Nat) : Met l yX7_lanesTooMuddy (ws_ yX7_lanesTooMuddy cX7_lanesTooMuddy 3 (some .int)) ({ frames := 3, cells := 0, slots := 0, locals := 64 }) (mPc [.ref (ad 1 w 0)] G ks ad V sz) (mQi post G ks ad sz) 0 0 (mA ks ad sz) := by
  refine g_met (own := RX7) (by decide) rfl (Nat.le_of_ble_eq_true rfl) ?_
  intro p e s m args below meth c ls hC hsz hr hlk hin hS ha hl
  have hl : lv_has ls 3 [(0, .ref (ad 1 w 0))] := hl
  unfold wp_X7_lanesTooMuddy at h
  have kT4 : ∀ (x1 : Int32) (x2 : Int32) (V : VS) (H : Heap) (locs : List Loc) (ls : Array Slot), wl_X7_lanesTooMuddy_4 ks w post x1 x2 V → ST G ks ad V (mA ks ad sz) s.heap H locs → lv_has ls 3 [(0, .ref (ad 1 w 0)), (1, .int x1), (2, .int x2)] → W p l e ({ frames := 3, cells := 0, slots := 0, locals := 64 } : Room) s m args below meth c H locs 0 0 (MQ below (mQi post G ks ad sz) args s 0 0 (mA ks ad sz)) (F0 m 4 ls []) := by
    intro x1 x2 V H locs ls h hS hl
    obtain ⟨J, ⟨n, hJ⟩, hb⟩ := h
    induction n using Nat.strongRecOn generalizing x1 x2 V H locs ls with
    | _ n ih =>
      have h := hb n x1 x2 V hJ
      obtain ⟨B4, eB⟩ : ∃ z : Int32 → Int32 → VS → Prop, z = (fun x1 x2 V => ∃ n', n' < n ∧ J n' x1 x2 V) := ⟨_, rfl⟩
      rw [← eB] at h
      have kB4 : ∀ (x1 : Int32) (x2 : Int32) (V : VS) (H : Heap) (locs : List Loc) (ls : Array Slot), B4 x1 x2 V → ST G ks ad V (mA ks ad sz) s.heap H locs → lv_has ls 3 [(0, .ref (ad 1 w 0)), (1, .int x1), (2, .int x2)] → W p l e ({ frames := 3, cells := 0, slots := 0, locals := 64 } : Room) s m args below meth c H locs 0 0 (MQ below (mQi post G ks ad sz) args s 0 0 (mA ks ad sz)) (F0 m 4 ls []) := by
        intro x1 x2 V H locs ls h hS hl
        rw [eB] at h
        obtain ⟨n', hn, hJ'⟩ := h
        exact ih n' hn _ _ _ _ _ _ hS hl hJ'
      clear ih hJ hb eB
      unfold wk_X7_lanesTooMuddy_4 at h
      refine lv_iload_n hC.1 hC.2.1 dX7_lanesTooMuddy_4 rfl (lv_at hl 2 rfl) ?_
      refine lv_aload_n hC.1 hC.2.1 dX7_lanesTooMuddy_5 rfl (lv_at hl 0 rfl) ?_
      obtain ⟨hk1, h⟩ := h
      refine gf_1_1 hC hS hk1 wq_136 dX7_lanesTooMuddy_6 ?_
      obtain ⟨hk2, h⟩ := h
      refine g_lsize hC hS hk2 wq_183 hl ⟨Nat.le_of_ble_eq_true rfl, Nat.le_of_ble_eq_true rfl, Nat.zero_le _⟩ (Nat.le_of_ble_eq_true rfl) dX7_lanesTooMuddy_9 ⟨Nat.le_of_ble_eq_true rfl, Nat.le_of_ble_eq_true rfl⟩ (fun H locs hS => ?_)
      refine lv_icmp_ge (tgt := 41) hC.1 hC.2.1 dX7_lanesTooMuddy_12 (by decide) (fun c14 => ?_) (fun c14 => ?_)
      · have h := h.1 c14
        refine lv_iload_n hC.1 hC.2.1 dX7_lanesTooMuddy_41 rfl (lv_at hl 1 rfl) ?_
        exact g_iret hC hr hlk hS h dX7_lanesTooMuddy_42
      · have h := h.2 c14
        refine lv_aload_n hC.1 hC.2.1 dX7_lanesTooMuddy_15 rfl (lv_at hl 0 rfl) ?_
        refine gf_1_1 hC hS hk1 wq_136 dX7_lanesTooMuddy_16 ?_
        refine lv_iload_n hC.1 hC.2.1 dX7_lanesTooMuddy_19 rfl (lv_at hl 2 rfl) ?_
        obtain ⟨hk3, h⟩ := h
        obtain ⟨hq4, h⟩ := h
        obtain ⟨hx5, h⟩ := h
        refine g_lget (E := 5) hC hS rfl hk2 hk3 hq4 hx5.1 hx5.2 wq_187 hl ⟨Nat.le_of_ble_eq_true rfl, Nat.le_of_ble_eq_true rfl, Nat.zero_le _⟩ (Nat.le_of_ble_eq_true rfl) dX7_lanesTooMuddy_20 ⟨Nat.le_of_ble_eq_true rfl, Nat.le_of_ble_eq_true rfl⟩ (fun j6 ej6 H locs hS => ?_)
        have h := h j6 ej6
        obtain ⟨hk7, h⟩ := h
        refine g_cast hC hS hk7 rfl (show vwCl[3]? = some (RX2, TX2, 5) from rfl) wq_233 dX7_lanesTooMuddy_23 ?_
        refine g_calli0 hS (g_runV (n := 0) (rest := []) (As := []) (C := RX2) (T := TX2) (N := 5) hC hS hk7 rfl rfl (c_X2_isUsable l G ks ad w j6 V _ h _) (gI wq_234 wq_235 wq_236 wq_59 wq_237) rfl ⟨⟨by decide +kernel, by decide +kernel, by decide +kernel⟩, rfl, rfl, Nat.le_of_ble_eq_true rfl, Nat.le_of_ble_eq_true rfl⟩ rfl hl rfl (Nat.le_of_ble_eq_true rfl) dX7_lanesTooMuddy_26 ⟨Nat.le_of_ble_eq_true rfl, Nat.le_of_ble_eq_true rfl⟩) (fun r9 V8 H locs h hS => ?_)
        refine lv_if_ne (tgt := 35) hC.1 hC.2.1 dX7_lanesTooMuddy_29 (by decide) (fun c13 => ?_) (fun c13 => ?_)
        · have h := h.2 c13
          obtain ⟨y12, ey12⟩ : ∃ z : Int32, z = x2 + 1 := ⟨_, rfl⟩
          have h := h y12 ey12
          refine lv_iinc (v := y12) (lv' := [(2, .int y12), (0, .ref (ad 1 w 0)), (1, .int x1)]) hC.1 hC.2.1 dX7_lanesTooMuddy_35 hl (k := 2) rfl (by rw [ey12]; rfl) (by decide) rfl (fun ls hl => ?_)
          refine lv_goto (tgt := 4) hC.1 hC.2.1 dX7_lanesTooMuddy_38 (by decide) ?_
          exact kB4 _ _ _ _ _ _ h hS (lv_sub hl [1, 2, 0] rfl)
        · have h := h.1 c13
          obtain ⟨y10, ey10⟩ : ∃ z : Int32, z = x1 + 1 := ⟨_, rfl⟩
          have h := h y10 ey10
          refine lv_iinc (v := y10) (lv' := [(1, .int y10), (0, .ref (ad 1 w 0)), (2, .int x2)]) hC.1 hC.2.1 dX7_lanesTooMuddy_32 hl (k := 1) rfl (by rw [ey10]; rfl) (by decide) rfl (fun ls hl => ?_)
          obtain ⟨y11, ey11⟩ : ∃ z : Int32, z = x2 + 1 := ⟨_, rfl⟩
          have h := h y11 ey11
          refine lv_iinc (v := y11) (lv' := [(2, .int y11), (1, .int y10), (0, .ref (ad 1 w 0))]) hC.1 hC.2.1 dX7_lanesTooMuddy_35 hl (k := 2) rfl (by rw [ey11]; rfl) (by decide) rfl (fun ls hl => ?_)
          refine lv_goto (tgt := 4) hC.1 hC.2.1 dX7_lanesTooMuddy_38 (by decide) ?_
          exact kB4 _ _ _ _ _ _ h hS (lv_sub hl [2, 1, 0] rfl)
  refine lv_iconst (v := 0) hC.1 hC.2.1 dX7_lanesTooMuddy_0 (by decide) ?_
  refine lv_istore_n (lv' := [(1, .int 0), (0, .ref (ad 1 w 0))]) hC.1 hC.2.1 dX7_lanesTooMuddy_1 rfl hl (by decide) rfl (fun ls hl => ?_)
  refine lv_iconst (v := 0) hC.1 hC.2.1 dX7_lanesTooMuddy_2 (by decide) ?_
  refine lv_istore_n (lv' := [(2, .int 0), (1, .int 0), (0, .ref (ad 1 w 0))]) hC.1 hC.2.1 dX7_lanesTooMuddy_3 rfl hl (by decide) rfl (fun ls hl => ?_)
  exact kT4 _ _ _ _ _ _ h hS (lv_sub hl [2, 1, 0] rfl)
def wp_X7_haltAnswer (ks : List KY) (w : Nat) (a1 : Int32) (a2 : Int32) (V : VS) (post : Int32 → VS → Prop) : Prop := ((a1 < 0 → (post (-1) V)) ∧ (¬ (a1 < 0) → ((1, w, 0) ∈ ks ∧ (2, w, 0) ∈ ks ∧ (a1 < (V 2 w 0 2 0) → ((3, w, 0) ∈ ks ∧ lsz V w 0 ≤ 33 ∧ (¬ a1 < 0 ∧ a1 < V 2 w 0 2 0) ∧ ∀ j6 : Nat, j6 = a1.toNatClampNeg → (4, w, j6) ∈ ks ∧ (a2 = 0 → (wp_X7_readersAt ks w a1 V (fun r9 V8 => (post r9 V8)))) ∧ (a2 = 1 → (wp_X7_lanesAt ks w a1 V (fun r12 V11 => (post r12 V11)))) ∧ (a2 = 2 → ((12, w, 0) ∈ ks ∧ wp_X5_timesOf ks w a1 V (fun r16 V14 => (post r16 V14)))) ∧ (a2 = 3 → (post (V 4 w j6 0 0) V)) ∧ ((a2.toInt < 0 ∨ 3 < a2.toInt) → (post (V 4 w j6 1 0) V)))) ∧ (¬ (a1 < (V 2 w 0 2 0)) → (post (-1) V)))))
set_option maxHeartbeats 4000000 in
set_option maxRecDepth 100000 in
theorem c_X7_haltAnswer (l : Launch) (G : GG) (ks : List KY) (ad : AD) (w : Nat) (a1 : Int32) (a2 : Int32) (V : VS) (post : Int32 → VS → Prop) (h : wp_X7_haltAnswer ks w a1 a2 V post) (sz : Nat) : Met l yX7_haltAnswer (ws_ yX7_haltAnswer cX7_haltAnswer 4 (some .int)) ({ frames := 4, cells := 0, slots := 0, locals := 88 }) (mPc [.ref (ad 1 w 0), .int a1, .int a2] G ks ad V sz) (mQi post G ks ad sz) 0 0 (mA ks ad sz) := by
  refine g_met (own := RX7) (by decide) rfl (Nat.le_of_ble_eq_true rfl) ?_
  intro p e s m args below meth c ls hC hsz hr hlk hin hS ha hl
  have hl : lv_has ls 4 [(0, .ref (ad 1 w 0)), (1, .int a1), (2, .int a2)] := hl
  unfold wp_X7_haltAnswer at h
  refine lv_iload_n hC.1 hC.2.1 dX7_haltAnswer_0 rfl (lv_at hl 1 rfl) ?_
  refine lv_if_lt (tgt := 15) hC.1 hC.2.1 dX7_haltAnswer_1 (by decide) (fun c21 => ?_) (fun c21 => ?_)
  · have h := h.1 c21
    refine lv_iconst (v := (-1)) hC.1 hC.2.1 dX7_haltAnswer_15 (by decide) ?_
    exact g_iret hC hr hlk hS h dX7_haltAnswer_16
  · have h := h.2 c21
    refine lv_iload_n hC.1 hC.2.1 dX7_haltAnswer_4 rfl (lv_at hl 1 rfl) ?_
    refine lv_aload_n hC.1 hC.2.1 dX7_haltAnswer_5 rfl (lv_at hl 0 rfl) ?_
    obtain ⟨hk1, h⟩ := h
    refine gf_1_0 hC hS hk1 wq_134 dX7_haltAnswer_6 ?_
    obtain ⟨hk2, h⟩ := h
    refine g_lsize hC hS hk2 wq_183 hl ⟨Nat.le_of_ble_eq_true rfl, Nat.le_of_ble_eq_true rfl, Nat.zero_le _⟩ (Nat.le_of_ble_eq_true rfl) dX7_haltAnswer_9 ⟨Nat.le_of_ble_eq_true rfl, Nat.le_of_ble_eq_true rfl⟩ (fun H locs hS => ?_)
    refine lv_icmp_lt (tgt := 17) hC.1 hC.2.1 dX7_haltAnswer_12 (by decide) (fun c20 => ?_) (fun c20 => ?_)
    · have h := h.1 c20
      refine lv_aload_n hC.1 hC.2.1 dX7_haltAnswer_17 rfl (lv_at hl 0 rfl) ?_
      refine gf_1_0 hC hS hk1 wq_134 dX7_haltAnswer_18 ?_
      refine lv_iload_n hC.1 hC.2.1 dX7_haltAnswer_21 rfl (lv_at hl 1 rfl) ?_
      obtain ⟨hk3, h⟩ := h
      obtain ⟨hq4, h⟩ := h
      obtain ⟨hx5, h⟩ := h
      refine g_lget (E := 4) hC hS rfl hk2 hk3 hq4 hx5.1 hx5.2 wq_187 hl ⟨Nat.le_of_ble_eq_true rfl, Nat.le_of_ble_eq_true rfl, Nat.zero_le _⟩ (Nat.le_of_ble_eq_true rfl) dX7_haltAnswer_22 ⟨Nat.le_of_ble_eq_true rfl, Nat.le_of_ble_eq_true rfl⟩ (fun j6 ej6 H locs hS => ?_)
      have h := h j6 ej6
      obtain ⟨hk7, h⟩ := h
      refine g_cast hC hS hk7 rfl (show vwCl[2]? = some (RX1, TX1, 2) from rfl) wq_262 dX7_haltAnswer_25 ?_
      refine lv_astore_n (lv' := [(3, .ref (ad 4 w j6)), (0, .ref (ad 1 w 0)), (1, .int a1), (2, .int a2)]) hC.1 hC.2.1 dX7_haltAnswer_28 rfl hl (by decide) rfl (fun ls hl => ?_)
      refine lv_iload_n hC.1 hC.2.1 dX7_haltAnswer_29 rfl (lv_at hl 3 rfl) ?_
      by_cases c10 : a2 = 0
      · have h := h.1 c10
        refine lv_tableIn (off := 30) (tgt := 60) hC.1 hC.2.1 dX7_haltAnswer_30 (by rw [c10]; decide) (by rw [c10]; decide) (by rw [c10]; decide) (by decide) ?_
        refine lv_aload_n hC.1 hC.2.1 dX7_haltAnswer_60 rfl (lv_at hl 1 rfl) ?_
        refine lv_iload_n hC.1 hC.2.1 dX7_haltAnswer_61 rfl (lv_at hl 2 rfl) ?_
        refine g_calli0 hS (g_runV (n := 1) (rest := []) (As := [.int a1]) (C := RX7) (T := TX7) (N := 9) hC hS hk1 rfl rfl (c_X7_readersAt l G ks ad w a1 V _ h _) (gI wq_263 wq_265 wq_2 wq_40 wq_266) rfl ⟨⟨by decide +kernel, by decide +kernel, by decide +kernel⟩, rfl, rfl, Nat.le_of_ble_eq_true rfl, Nat.le_of_ble_eq_true rfl⟩ rfl hl rfl (Nat.le_of_ble_eq_true rfl) dX7_haltAnswer_62 ⟨Nat.le_of_ble_eq_true rfl, Nat.le_of_ble_eq_true rfl⟩) (fun r9 V8 H locs h hS => ?_)
        exact g_iret hC hr hlk hS h dX7_haltAnswer_65
      have h := h.2
      by_cases c13 : a2 = 1
      · have h := h.1 c13
        refine lv_tableIn (off := 36) (tgt := 66) hC.1 hC.2.1 dX7_haltAnswer_30 (by rw [c13]; decide) (by rw [c13]; decide) (by rw [c13]; decide) (by decide) ?_
        refine lv_aload_n hC.1 hC.2.1 dX7_haltAnswer_66 rfl (lv_at hl 1 rfl) ?_
        refine lv_iload_n hC.1 hC.2.1 dX7_haltAnswer_67 rfl (lv_at hl 2 rfl) ?_
        refine g_calli0 hS (g_runV (n := 1) (rest := []) (As := [.int a1]) (C := RX7) (T := TX7) (N := 9) hC hS hk1 rfl rfl (c_X7_lanesAt l G ks ad w a1 V _ h _) (gI wq_267 wq_269 wq_3 wq_40 wq_270) rfl ⟨⟨by decide +kernel, by decide +kernel, by decide +kernel⟩, rfl, rfl, Nat.le_of_ble_eq_true rfl, Nat.le_of_ble_eq_true rfl⟩ rfl hl rfl (Nat.le_of_ble_eq_true rfl) dX7_haltAnswer_68 ⟨Nat.le_of_ble_eq_true rfl, Nat.le_of_ble_eq_true rfl⟩) (fun r12 V11 H locs h hS => ?_)
        exact g_iret hC hr hlk hS h dX7_haltAnswer_71
      have h := h.2
      by_cases c17 : a2 = 2
      · have h := h.1 c17
        refine lv_tableIn (off := 42) (tgt := 72) hC.1 hC.2.1 dX7_haltAnswer_30 (by rw [c17]; decide) (by rw [c17]; decide) (by rw [c17]; decide) (by decide) ?_
        refine lv_aload_n hC.1 hC.2.1 dX7_haltAnswer_72 rfl (lv_at hl 1 rfl) ?_
        refine gf_1_5 hC hS hk1 wq_143 dX7_haltAnswer_73 ?_
        refine lv_iload_n hC.1 hC.2.1 dX7_haltAnswer_76 rfl (lv_at hl 2 rfl) ?_
        obtain ⟨hk15, h⟩ := h
        refine g_calli0 hS (g_runV (n := 1) (rest := []) (As := [.int a1]) (C := RX5) (T := TX5) (N := 3) hC hS hk15 rfl rfl (c_X5_timesOf l G ks ad w a1 V _ h _) (gI wq_271 wq_272 wq_273 wq_45 wq_274) rfl ⟨⟨by decide +kernel, by decide +kernel, by decide +kernel⟩, rfl, rfl, Nat.le_of_ble_eq_true rfl, Nat.le_of_ble_eq_true rfl⟩ rfl hl rfl (Nat.le_of_ble_eq_true rfl) dX7_haltAnswer_77 ⟨Nat.le_of_ble_eq_true rfl, Nat.le_of_ble_eq_true rfl⟩) (fun r16 V14 H locs h hS => ?_)
        exact g_iret hC hr hlk hS h dX7_haltAnswer_80
      have h := h.2
      by_cases c18 : a2 = 3
      · have h := h.1 c18
        refine lv_tableIn (off := 51) (tgt := 81) hC.1 hC.2.1 dX7_haltAnswer_30 (by rw [c18]; decide) (by rw [c18]; decide) (by rw [c18]; decide) (by decide) ?_
        refine lv_aload_n hC.1 hC.2.1 dX7_haltAnswer_81 rfl (lv_at hl 0 rfl) ?_
        refine gn_4_0 hC hS hk7 wq_414 dX7_haltAnswer_82 ?_
        exact g_iret hC hr hlk hS h dX7_haltAnswer_85
      have h := h.2
      have ht19 : a2.toInt < 0 ∨ 3 < a2.toInt := by
        have e0 : a2.toInt ≠ 0 := fun z => c10 (Int32.toInt_inj.mp (z.trans (by decide)))
        have e1 : a2.toInt ≠ 1 := fun z => c13 (Int32.toInt_inj.mp (z.trans (by decide)))
        have e2 : a2.toInt ≠ 2 := fun z => c17 (Int32.toInt_inj.mp (z.trans (by decide)))
        have e3 : a2.toInt ≠ 3 := fun z => c18 (Int32.toInt_inj.mp (z.trans (by decide)))
        omega
      have h := h ht19
      refine lv_tableOut (tgt := 86) hC.1 hC.2.1 dX7_haltAnswer_30 ht19 (by decide) ?_
      refine lv_aload_n hC.1 hC.2.1 dX7_haltAnswer_86 rfl (lv_at hl 0 rfl) ?_
      refine gn_4_1 hC hS hk7 wq_416 dX7_haltAnswer_87 ?_
      exact g_iret hC hr hlk hS h dX7_haltAnswer_90
    · have h := h.2 c20
      refine lv_iconst (v := (-1)) hC.1 hC.2.1 dX7_haltAnswer_15 (by decide) ?_
      exact g_iret hC hr hlk hS h dX7_haltAnswer_16
def wp_X7_laneAnswer (ks : List KY) (w : Nat) (a1 : Int32) (a2 : Int32) (V : VS) (post : Int32 → VS → Prop) : Prop := ((a1 < 0 → (post (-1) V)) ∧ (¬ (a1 < 0) → ((1, w, 0) ∈ ks ∧ (2, w, 1) ∈ ks ∧ (a1 < (V 2 w 1 2 0) → ((3, w, 1) ∈ ks ∧ lsz V w 1 ≤ 33 ∧ (¬ a1 < 0 ∧ a1 < V 2 w 1 2 0) ∧ ∀ j6 : Nat, j6 = a1.toNatClampNeg → (5, w, j6) ∈ ks ∧ (a2 = 0 → (post (V 5 w j6 0 0) V)) ∧ (a2 = 1 → (post (V 5 w j6 1 0) V)) ∧ (a2 = 2 → (post (V 5 w j6 2 0) V)) ∧ (a2 = 3 → (post (V 5 w j6 3 0) V)) ∧ (a2 = 4 → (post (V 5 w j6 4 0) V)) ∧ ((a2.toInt < 0 ∨ 4 < a2.toInt) → (wp_X2_isUsable ks w j6 V (fun r14 V13 => ((r14 = 0 → (post (-1) V13)) ∧ (¬ (r14 = 0) → (wp_X2_minutes ks w j6 V13 (fun r16 V15 => (post r16 V15)))))))))) ∧ (¬ (a1 < (V 2 w 1 2 0)) → (post (-1) V)))))
set_option maxHeartbeats 4000000 in
set_option maxRecDepth 100000 in
theorem c_X7_laneAnswer (l : Launch) (G : GG) (ks : List KY) (ad : AD) (w : Nat) (a1 : Int32) (a2 : Int32) (V : VS) (post : Int32 → VS → Prop) (h : wp_X7_laneAnswer ks w a1 a2 V post) (sz : Nat) : Met l yX7_laneAnswer (ws_ yX7_laneAnswer cX7_laneAnswer 4 (some .int)) ({ frames := 3, cells := 0, slots := 0, locals := 64 }) (mPc [.ref (ad 1 w 0), .int a1, .int a2] G ks ad V sz) (mQi post G ks ad sz) 0 0 (mA ks ad sz) := by
  refine g_met (own := RX7) (by decide) rfl (Nat.le_of_ble_eq_true rfl) ?_
  intro p e s m args below meth c ls hC hsz hr hlk hin hS ha hl
  have hl : lv_has ls 4 [(0, .ref (ad 1 w 0)), (1, .int a1), (2, .int a2)] := hl
  unfold wp_X7_laneAnswer at h
  refine lv_iload_n hC.1 hC.2.1 dX7_laneAnswer_0 rfl (lv_at hl 1 rfl) ?_
  refine lv_if_lt (tgt := 15) hC.1 hC.2.1 dX7_laneAnswer_1 (by decide) (fun c20 => ?_) (fun c20 => ?_)
  · have h := h.1 c20
    refine lv_iconst (v := (-1)) hC.1 hC.2.1 dX7_laneAnswer_15 (by decide) ?_
    exact g_iret hC hr hlk hS h dX7_laneAnswer_16
  · have h := h.2 c20
    refine lv_iload_n hC.1 hC.2.1 dX7_laneAnswer_4 rfl (lv_at hl 1 rfl) ?_
    refine lv_aload_n hC.1 hC.2.1 dX7_laneAnswer_5 rfl (lv_at hl 0 rfl) ?_
    obtain ⟨hk1, h⟩ := h
    refine gf_1_1 hC hS hk1 wq_136 dX7_laneAnswer_6 ?_
    obtain ⟨hk2, h⟩ := h
    refine g_lsize hC hS hk2 wq_183 hl ⟨Nat.le_of_ble_eq_true rfl, Nat.le_of_ble_eq_true rfl, Nat.zero_le _⟩ (Nat.le_of_ble_eq_true rfl) dX7_laneAnswer_9 ⟨Nat.le_of_ble_eq_true rfl, Nat.le_of_ble_eq_true rfl⟩ (fun H locs hS => ?_)
    refine lv_icmp_lt (tgt := 17) hC.1 hC.2.1 dX7_laneAnswer_12 (by decide) (fun c19 => ?_) (fun c19 => ?_)
    · have h := h.1 c19
      refine lv_aload_n hC.1 hC.2.1 dX7_laneAnswer_17 rfl (lv_at hl 0 rfl) ?_
      refine gf_1_1 hC hS hk1 wq_136 dX7_laneAnswer_18 ?_
      refine lv_iload_n hC.1 hC.2.1 dX7_laneAnswer_21 rfl (lv_at hl 1 rfl) ?_
      obtain ⟨hk3, h⟩ := h
      obtain ⟨hq4, h⟩ := h
      obtain ⟨hx5, h⟩ := h
      refine g_lget (E := 5) hC hS rfl hk2 hk3 hq4 hx5.1 hx5.2 wq_187 hl ⟨Nat.le_of_ble_eq_true rfl, Nat.le_of_ble_eq_true rfl, Nat.zero_le _⟩ (Nat.le_of_ble_eq_true rfl) dX7_laneAnswer_22 ⟨Nat.le_of_ble_eq_true rfl, Nat.le_of_ble_eq_true rfl⟩ (fun j6 ej6 H locs hS => ?_)
      have h := h j6 ej6
      obtain ⟨hk7, h⟩ := h
      refine g_cast hC hS hk7 rfl (show vwCl[3]? = some (RX2, TX2, 5) from rfl) wq_233 dX7_laneAnswer_25 ?_
      refine lv_astore_n (lv' := [(3, .ref (ad 5 w j6)), (0, .ref (ad 1 w 0)), (1, .int a1), (2, .int a2)]) hC.1 hC.2.1 dX7_laneAnswer_28 rfl hl (by decide) rfl (fun ls hl => ?_)
      refine lv_iload_n hC.1 hC.2.1 dX7_laneAnswer_29 rfl (lv_at hl 3 rfl) ?_
      by_cases c8 : a2 = 0
      · have h := h.1 c8
        refine lv_tableIn (off := 34) (tgt := 64) hC.1 hC.2.1 dX7_laneAnswer_30 (by rw [c8]; decide) (by rw [c8]; decide) (by rw [c8]; decide) (by decide) ?_
        refine lv_aload_n hC.1 hC.2.1 dX7_laneAnswer_64 rfl (lv_at hl 0 rfl) ?_
        refine gn_5_0 hC hS hk7 wq_546 dX7_laneAnswer_65 ?_
        exact g_iret hC hr hlk hS h dX7_laneAnswer_68
      have h := h.2
      by_cases c9 : a2 = 1
      · have h := h.1 c9
        refine lv_tableIn (off := 39) (tgt := 69) hC.1 hC.2.1 dX7_laneAnswer_30 (by rw [c9]; decide) (by rw [c9]; decide) (by rw [c9]; decide) (by decide) ?_
        refine lv_aload_n hC.1 hC.2.1 dX7_laneAnswer_69 rfl (lv_at hl 0 rfl) ?_
        refine gn_5_1 hC hS hk7 wq_549 dX7_laneAnswer_70 ?_
        exact g_iret hC hr hlk hS h dX7_laneAnswer_73
      have h := h.2
      by_cases c10 : a2 = 2
      · have h := h.1 c10
        refine lv_tableIn (off := 44) (tgt := 74) hC.1 hC.2.1 dX7_laneAnswer_30 (by rw [c10]; decide) (by rw [c10]; decide) (by rw [c10]; decide) (by decide) ?_
        refine lv_aload_n hC.1 hC.2.1 dX7_laneAnswer_74 rfl (lv_at hl 0 rfl) ?_
        refine gn_5_2 hC hS hk7 wq_551 dX7_laneAnswer_75 ?_
        exact g_iret hC hr hlk hS h dX7_laneAnswer_78
      have h := h.2
      by_cases c11 : a2 = 3
      · have h := h.1 c11
        refine lv_tableIn (off := 49) (tgt := 79) hC.1 hC.2.1 dX7_laneAnswer_30 (by rw [c11]; decide) (by rw [c11]; decide) (by rw [c11]; decide) (by decide) ?_
        refine lv_aload_n hC.1 hC.2.1 dX7_laneAnswer_79 rfl (lv_at hl 0 rfl) ?_
        refine gn_5_3 hC hS hk7 wq_553 dX7_laneAnswer_80 ?_
        exact g_iret hC hr hlk hS h dX7_laneAnswer_83
      have h := h.2
      by_cases c12 : a2 = 4
      · have h := h.1 c12
        refine lv_tableIn (off := 54) (tgt := 84) hC.1 hC.2.1 dX7_laneAnswer_30 (by rw [c12]; decide) (by rw [c12]; decide) (by rw [c12]; decide) (by decide) ?_
        refine lv_aload_n hC.1 hC.2.1 dX7_laneAnswer_84 rfl (lv_at hl 0 rfl) ?_
        refine gn_5_4 hC hS hk7 wq_555 dX7_laneAnswer_85 ?_
        exact g_iret hC hr hlk hS h dX7_laneAnswer_88
      have h := h.2
      have ht18 : a2.toInt < 0 ∨ 4 < a2.toInt := by
        have e0 : a2.toInt ≠ 0 := fun z => c8 (Int32.toInt_inj.mp (z.trans (by decide)))
        have e1 : a2.toInt ≠ 1 := fun z => c9 (Int32.toInt_inj.mp (z.trans (by decide)))
        have e2 : a2.toInt ≠ 2 := fun z => c10 (Int32.toInt_inj.mp (z.trans (by decide)))
        have e3 : a2.toInt ≠ 3 := fun z => c11 (Int32.toInt_inj.mp (z.trans (by decide)))
        have e4 : a2.toInt ≠ 4 := fun z => c12 (Int32.toInt_inj.mp (z.trans (by decide)))
        omega
      have h := h ht18
      refine lv_tableOut (tgt := 89) hC.1 hC.2.1 dX7_laneAnswer_30 ht18 (by decide) ?_
      refine lv_aload_n hC.1 hC.2.1 dX7_laneAnswer_89 rfl (lv_at hl 0 rfl) ?_
      refine g_calli0 hS (g_runV (n := 0) (rest := []) (As := []) (C := RX2) (T := TX2) (N := 5) hC hS hk7 rfl rfl (c_X2_isUsable l G ks ad w j6 V _ h _) (gI wq_234 wq_235 wq_236 wq_59 wq_237) rfl ⟨⟨by decide +kernel, by decide +kernel, by decide +kernel⟩, rfl, rfl, Nat.le_of_ble_eq_true rfl, Nat.le_of_ble_eq_true rfl⟩ rfl hl rfl (Nat.le_of_ble_eq_true rfl) dX7_laneAnswer_90 ⟨Nat.le_of_ble_eq_true rfl, Nat.le_of_ble_eq_true rfl⟩) (fun r14 V13 H locs h hS => ?_)
      refine lv_if_eq (tgt := 103) hC.1 hC.2.1 dX7_laneAnswer_93 (by decide) (fun c17 => ?_) (fun c17 => ?_)
      · have h := h.1 c17
        refine lv_iconst (v := (-1)) hC.1 hC.2.1 dX7_laneAnswer_103 (by decide) ?_
        exact g_iret hC hr hlk hS h dX7_laneAnswer_104
      · have h := h.2 c17
        refine lv_aload_n hC.1 hC.2.1 dX7_laneAnswer_96 rfl (lv_at hl 0 rfl) ?_
        refine g_calli0 hS (g_runV (n := 0) (rest := []) (As := []) (C := RX2) (T := TX2) (N := 5) hC hS hk7 rfl rfl (c_X2_minutes l G ks ad w j6 V13 _ h _) (gI wq_280 wq_281 wq_282 wq_59 wq_283) rfl ⟨⟨by decide +kernel, by decide +kernel, by decide +kernel⟩, rfl, rfl, Nat.le_of_ble_eq_true rfl, Nat.le_of_ble_eq_true rfl⟩ rfl hl rfl (Nat.le_of_ble_eq_true rfl) dX7_laneAnswer_97 ⟨Nat.le_of_ble_eq_true rfl, Nat.le_of_ble_eq_true rfl⟩) (fun r16 V15 H locs h hS => ?_)
        refine lv_goto (tgt := 104) hC.1 hC.2.1 dX7_laneAnswer_100 (by decide) ?_
        exact g_iret hC hr hlk hS h dX7_laneAnswer_104
    · have h := h.2 c19
      refine lv_iconst (v := (-1)) hC.1 hC.2.1 dX7_laneAnswer_15 (by decide) ?_
      exact g_iret hC hr hlk hS h dX7_laneAnswer_16
def wp_X7_bookAnswer (ks : List KY) (w : Nat) (a1 : Int32) (a2 : Int32) (V : VS) (post : Int32 → VS → Prop) : Prop := ((a1 < 0 → (post (-1) V)) ∧ (¬ (a1 < 0) → ((1, w, 0) ∈ ks ∧ (2, w, 2) ∈ ks ∧ (a1 < (V 2 w 2 2 0) → ((3, w, 2) ∈ ks ∧ lsz V w 2 ≤ 33 ∧ (¬ a1 < 0 ∧ a1 < V 2 w 2 2 0) ∧ ∀ j6 : Nat, j6 = a1.toNatClampNeg → (6, w, j6) ∈ ks ∧ (a2 = 0 → (post (V 6 w j6 1 0) V)) ∧ (a2 = 1 → (post (V 6 w j6 3 0) V)) ∧ (a2 = 2 → (post (V 6 w j6 4 0) V)) ∧ (a2 = 3 → ((8, w, j6) ∈ ks ∧ wp_X3_size ks w j6 V (fun r13 V11 => (post r13 V11)))) ∧ (a2 = 4 → ((8, w, j6) ∈ ks ∧ wp_X3_first ks w j6 V (fun r17 V15 => (post r17 V15)))) ∧ (a2 = 5 → (post (V 6 w j6 5 0) V)) ∧ ((a2.toInt < 0 ∨ 5 < a2.toInt) → (wp_X7_readersWhoRead ks w a1 V (fun r21 V20 => (post r21 V20)))))) ∧ (¬ (a1 < (V 2 w 2 2 0)) → (post (-1) V)))))
set_option maxHeartbeats 4000000 in
set_option maxRecDepth 100000 in
theorem c_X7_bookAnswer (l : Launch) (G : GG) (ks : List KY) (ad : AD) (w : Nat) (a1 : Int32) (a2 : Int32) (V : VS) (post : Int32 → VS → Prop) (h : wp_X7_bookAnswer ks w a1 a2 V post) (sz : Nat) : Met l yX7_bookAnswer (ws_ yX7_bookAnswer cX7_bookAnswer 4 (some .int)) ({ frames := 4, cells := 0, slots := 0, locals := 87 }) (mPc [.ref (ad 1 w 0), .int a1, .int a2] G ks ad V sz) (mQi post G ks ad sz) 0 0 (mA ks ad sz) := by
  refine g_met (own := RX7) (by decide) rfl (Nat.le_of_ble_eq_true rfl) ?_
  intro p e s m args below meth c ls hC hsz hr hlk hin hS ha hl
  have hl : lv_has ls 4 [(0, .ref (ad 1 w 0)), (1, .int a1), (2, .int a2)] := hl
  unfold wp_X7_bookAnswer at h
  refine lv_iload_n hC.1 hC.2.1 dX7_bookAnswer_0 rfl (lv_at hl 1 rfl) ?_
  refine lv_if_lt (tgt := 15) hC.1 hC.2.1 dX7_bookAnswer_1 (by decide) (fun c24 => ?_) (fun c24 => ?_)
  · have h := h.1 c24
    refine lv_iconst (v := (-1)) hC.1 hC.2.1 dX7_bookAnswer_15 (by decide) ?_
    exact g_iret hC hr hlk hS h dX7_bookAnswer_16
  · have h := h.2 c24
    refine lv_iload_n hC.1 hC.2.1 dX7_bookAnswer_4 rfl (lv_at hl 1 rfl) ?_
    refine lv_aload_n hC.1 hC.2.1 dX7_bookAnswer_5 rfl (lv_at hl 0 rfl) ?_
    obtain ⟨hk1, h⟩ := h
    refine gf_1_2 hC hS hk1 wq_138 dX7_bookAnswer_6 ?_
    obtain ⟨hk2, h⟩ := h
    refine g_lsize hC hS hk2 wq_183 hl ⟨Nat.le_of_ble_eq_true rfl, Nat.le_of_ble_eq_true rfl, Nat.zero_le _⟩ (Nat.le_of_ble_eq_true rfl) dX7_bookAnswer_9 ⟨Nat.le_of_ble_eq_true rfl, Nat.le_of_ble_eq_true rfl⟩ (fun H locs hS => ?_)
    refine lv_icmp_lt (tgt := 17) hC.1 hC.2.1 dX7_bookAnswer_12 (by decide) (fun c23 => ?_) (fun c23 => ?_)
    · have h := h.1 c23
      refine lv_aload_n hC.1 hC.2.1 dX7_bookAnswer_17 rfl (lv_at hl 0 rfl) ?_
      refine gf_1_2 hC hS hk1 wq_138 dX7_bookAnswer_18 ?_
      refine lv_iload_n hC.1 hC.2.1 dX7_bookAnswer_21 rfl (lv_at hl 1 rfl) ?_
      obtain ⟨hk3, h⟩ := h
      obtain ⟨hq4, h⟩ := h
      obtain ⟨hx5, h⟩ := h
      refine g_lget (E := 6) hC hS rfl hk2 hk3 hq4 hx5.1 hx5.2 wq_187 hl ⟨Nat.le_of_ble_eq_true rfl, Nat.le_of_ble_eq_true rfl, Nat.zero_le _⟩ (Nat.le_of_ble_eq_true rfl) dX7_bookAnswer_22 ⟨Nat.le_of_ble_eq_true rfl, Nat.le_of_ble_eq_true rfl⟩ (fun j6 ej6 H locs hS => ?_)
      have h := h j6 ej6
      obtain ⟨hk7, h⟩ := h
      refine g_cast hC hS hk7 rfl (show vwCl[1]? = some (RX0, TX0, 6) from rfl) wq_201 dX7_bookAnswer_25 ?_
      refine lv_astore_n (lv' := [(3, .ref (ad 6 w j6)), (0, .ref (ad 1 w 0)), (1, .int a1), (2, .int a2)]) hC.1 hC.2.1 dX7_bookAnswer_28 rfl hl (by decide) rfl (fun ls hl => ?_)
      refine lv_iload_n hC.1 hC.2.1 dX7_bookAnswer_29 rfl (lv_at hl 3 rfl) ?_
      by_cases c8 : a2 = 0
      · have h := h.1 c8
        refine lv_tableIn (off := 38) (tgt := 68) hC.1 hC.2.1 dX7_bookAnswer_30 (by rw [c8]; decide) (by rw [c8]; decide) (by rw [c8]; decide) (by decide) ?_
        refine lv_aload_n hC.1 hC.2.1 dX7_bookAnswer_68 rfl (lv_at hl 0 rfl) ?_
        refine gn_6_1 hC hS hk7 wq_681 dX7_bookAnswer_69 ?_
        exact g_iret hC hr hlk hS h dX7_bookAnswer_72
      have h := h.2
      by_cases c9 : a2 = 1
      · have h := h.1 c9
        refine lv_tableIn (off := 43) (tgt := 73) hC.1 hC.2.1 dX7_bookAnswer_30 (by rw [c9]; decide) (by rw [c9]; decide) (by rw [c9]; decide) (by decide) ?_
        refine lv_aload_n hC.1 hC.2.1 dX7_bookAnswer_73 rfl (lv_at hl 0 rfl) ?_
        refine gn_6_3 hC hS hk7 wq_686 dX7_bookAnswer_74 ?_
        exact g_iret hC hr hlk hS h dX7_bookAnswer_77
      have h := h.2
      by_cases c10 : a2 = 2
      · have h := h.1 c10
        refine lv_tableIn (off := 48) (tgt := 78) hC.1 hC.2.1 dX7_bookAnswer_30 (by rw [c10]; decide) (by rw [c10]; decide) (by rw [c10]; decide) (by decide) ?_
        refine lv_aload_n hC.1 hC.2.1 dX7_bookAnswer_78 rfl (lv_at hl 0 rfl) ?_
        refine gn_6_4 hC hS hk7 wq_689 dX7_bookAnswer_79 ?_
        exact g_iret hC hr hlk hS h dX7_bookAnswer_82
      have h := h.2
      by_cases c14 : a2 = 3
      · have h := h.1 c14
        refine lv_tableIn (off := 53) (tgt := 83) hC.1 hC.2.1 dX7_bookAnswer_30 (by rw [c14]; decide) (by rw [c14]; decide) (by rw [c14]; decide) (by decide) ?_
        refine lv_aload_n hC.1 hC.2.1 dX7_bookAnswer_83 rfl (lv_at hl 0 rfl) ?_
        refine gn_6_2 hC hS hk7 wq_684 dX7_bookAnswer_84 ?_
        obtain ⟨hk12, h⟩ := h
        refine g_calli0 hS (g_runV (n := 0) (rest := []) (As := []) (C := RX3) (T := TX3) (N := 2) hC hS hk12 rfl rfl (c_X3_size l G ks ad w j6 V _ h _) (gI wq_292 wq_293 wq_294 wq_63 wq_295) rfl ⟨⟨by decide +kernel, by decide +kernel, by decide +kernel⟩, rfl, rfl, Nat.le_of_ble_eq_true rfl, Nat.le_of_ble_eq_true rfl⟩ rfl hl rfl (Nat.le_of_ble_eq_true rfl) dX7_bookAnswer_87 ⟨Nat.le_of_ble_eq_true rfl, Nat.le_of_ble_eq_true rfl⟩) (fun r13 V11 H locs h hS => ?_)
        exact g_iret hC hr hlk hS h dX7_bookAnswer_90
      have h := h.2
      by_cases c18 : a2 = 4
      · have h := h.1 c18
        refine lv_tableIn (off := 61) (tgt := 91) hC.1 hC.2.1 dX7_bookAnswer_30 (by rw [c18]; decide) (by rw [c18]; decide) (by rw [c18]; decide) (by decide) ?_
        refine lv_aload_n hC.1 hC.2.1 dX7_bookAnswer_91 rfl (lv_at hl 0 rfl) ?_
        refine gn_6_2 hC hS hk7 wq_684 dX7_bookAnswer_92 ?_
        obtain ⟨hk16, h⟩ := h
        refine g_calli0 hS (g_runV (n := 0) (rest := []) (As := []) (C := RX3) (T := TX3) (N := 2) hC hS hk16 rfl rfl (c_X3_first l G ks ad w j6 V _ h _) (gI wq_296 wq_297 wq_298 wq_63 wq_299) rfl ⟨⟨by decide +kernel, by decide +kernel, by decide +kernel⟩, rfl, rfl, Nat.le_of_ble_eq_true rfl, Nat.le_of_ble_eq_true rfl⟩ rfl hl rfl (Nat.le_of_ble_eq_true rfl) dX7_bookAnswer_95 ⟨Nat.le_of_ble_eq_true rfl, Nat.le_of_ble_eq_true rfl⟩) (fun r17 V15 H locs h hS => ?_)
        exact g_iret hC hr hlk hS h dX7_bookAnswer_98
      have h := h.2
      by_cases c19 : a2 = 5
      · have h := h.1 c19
        refine lv_tableIn (off := 69) (tgt := 99) hC.1 hC.2.1 dX7_bookAnswer_30 (by rw [c19]; decide) (by rw [c19]; decide) (by rw [c19]; decide) (by decide) ?_
        refine lv_aload_n hC.1 hC.2.1 dX7_bookAnswer_99 rfl (lv_at hl 0 rfl) ?_
        refine gn_6_5 hC hS hk7 wq_691 dX7_bookAnswer_100 ?_
        exact g_iret hC hr hlk hS h dX7_bookAnswer_103
      have h := h.2
      have ht22 : a2.toInt < 0 ∨ 5 < a2.toInt := by
        have e0 : a2.toInt ≠ 0 := fun z => c8 (Int32.toInt_inj.mp (z.trans (by decide)))
        have e1 : a2.toInt ≠ 1 := fun z => c9 (Int32.toInt_inj.mp (z.trans (by decide)))
        have e2 : a2.toInt ≠ 2 := fun z => c10 (Int32.toInt_inj.mp (z.trans (by decide)))
        have e3 : a2.toInt ≠ 3 := fun z => c14 (Int32.toInt_inj.mp (z.trans (by decide)))
        have e4 : a2.toInt ≠ 4 := fun z => c18 (Int32.toInt_inj.mp (z.trans (by decide)))
        have e5 : a2.toInt ≠ 5 := fun z => c19 (Int32.toInt_inj.mp (z.trans (by decide)))
        omega
      have h := h ht22
      refine lv_tableOut (tgt := 104) hC.1 hC.2.1 dX7_bookAnswer_30 ht22 (by decide) ?_
      refine lv_aload_n hC.1 hC.2.1 dX7_bookAnswer_104 rfl (lv_at hl 1 rfl) ?_
      refine lv_iload_n hC.1 hC.2.1 dX7_bookAnswer_105 rfl (lv_at hl 2 rfl) ?_
      refine g_calli0 hS (g_runV (n := 1) (rest := []) (As := [.int a1]) (C := RX7) (T := TX7) (N := 9) hC hS hk1 rfl rfl (c_X7_readersWhoRead l G ks ad w a1 V _ h _) (gI wq_300 wq_302 wq_4 wq_40 wq_303) rfl ⟨⟨by decide +kernel, by decide +kernel, by decide +kernel⟩, rfl, rfl, Nat.le_of_ble_eq_true rfl, Nat.le_of_ble_eq_true rfl⟩ rfl hl rfl (Nat.le_of_ble_eq_true rfl) dX7_bookAnswer_106 ⟨Nat.le_of_ble_eq_true rfl, Nat.le_of_ble_eq_true rfl⟩) (fun r21 V20 H locs h hS => ?_)
      exact g_iret hC hr hlk hS h dX7_bookAnswer_109
    · have h := h.2 c23
      refine lv_iconst (v := (-1)) hC.1 hC.2.1 dX7_bookAnswer_15 (by decide) ?_
      exact g_iret hC hr hlk hS h dX7_bookAnswer_16
def wp_X7_readerAnswer (ks : List KY) (w : Nat) (a1 : Int32) (a2 : Int32) (V : VS) (post : Int32 → VS → Prop) : Prop := ((a1 < 0 → (post (-1) V)) ∧ (¬ (a1 < 0) → ((1, w, 0) ∈ ks ∧ (2, w, 3) ∈ ks ∧ (a1 < (V 2 w 3 2 0) → ((3, w, 3) ∈ ks ∧ lsz V w 3 ≤ 33 ∧ (¬ a1 < 0 ∧ a1 < V 2 w 3 2 0) ∧ ∀ j6 : Nat, j6 = a1.toNatClampNeg → (7, w, j6) ∈ ks ∧ (a2 = 0 → (post (V 7 w j6 1 0) V)) ∧ (a2 = 1 → (post (V 7 w j6 2 0) V)) ∧ (a2 = 2 → (post (V 7 w j6 3 0) V)) ∧ (a2 = 3 → (post (V 7 w j6 4 0) V)) ∧ (a2 = 4 → (wp_J6_bitCount_0f7a4 ks (V 7 w j6 5 0) V (fun r13 V12 => (post r13 V12)))) ∧ (a2 = 5 → (post (V 7 w j6 6 0) V)) ∧ (a2 = 6 → (wp_X7_booksReservedBy ks w a1 V (fun r17 V16 => (post r17 V16)))) ∧ ((a2.toInt < 0 ∨ 6 < a2.toInt) → (post (V 7 w j6 7 0) V)))) ∧ (¬ (a1 < (V 2 w 3 2 0)) → (post (-1) V)))))
set_option maxHeartbeats 4000000 in
set_option maxRecDepth 100000 in
theorem c_X7_readerAnswer (l : Launch) (G : GG) (ks : List KY) (ad : AD) (w : Nat) (a1 : Int32) (a2 : Int32) (V : VS) (post : Int32 → VS → Prop) (h : wp_X7_readerAnswer ks w a1 a2 V post) (sz : Nat) : Met l yX7_readerAnswer (ws_ yX7_readerAnswer cX7_readerAnswer 4 (some .int)) ({ frames := 4, cells := 0, slots := 0, locals := 87 }) (mPc [.ref (ad 1 w 0), .int a1, .int a2] G ks ad V sz) (mQi post G ks ad sz) 0 0 (mA ks ad sz) := by
  refine g_met (own := RX7) (by decide) rfl (Nat.le_of_ble_eq_true rfl) ?_
  intro p e s m args below meth c ls hC hsz hr hlk hin hS ha hl
  have hl : lv_has ls 4 [(0, .ref (ad 1 w 0)), (1, .int a1), (2, .int a2)] := hl
  unfold wp_X7_readerAnswer at h
  refine lv_iload_n hC.1 hC.2.1 dX7_readerAnswer_0 rfl (lv_at hl 1 rfl) ?_
  refine lv_if_lt (tgt := 15) hC.1 hC.2.1 dX7_readerAnswer_1 (by decide) (fun c21 => ?_) (fun c21 => ?_)
  · have h := h.1 c21
    refine lv_iconst (v := (-1)) hC.1 hC.2.1 dX7_readerAnswer_15 (by decide) ?_
    exact g_iret hC hr hlk hS h dX7_readerAnswer_16
  · have h := h.2 c21
    refine lv_iload_n hC.1 hC.2.1 dX7_readerAnswer_4 rfl (lv_at hl 1 rfl) ?_
    refine lv_aload_n hC.1 hC.2.1 dX7_readerAnswer_5 rfl (lv_at hl 0 rfl) ?_
    obtain ⟨hk1, h⟩ := h
    refine gf_1_3 hC hS hk1 wq_140 dX7_readerAnswer_6 ?_
    obtain ⟨hk2, h⟩ := h
    refine g_lsize hC hS hk2 wq_183 hl ⟨Nat.le_of_ble_eq_true rfl, Nat.le_of_ble_eq_true rfl, Nat.zero_le _⟩ (Nat.le_of_ble_eq_true rfl) dX7_readerAnswer_9 ⟨Nat.le_of_ble_eq_true rfl, Nat.le_of_ble_eq_true rfl⟩ (fun H locs hS => ?_)
    refine lv_icmp_lt (tgt := 17) hC.1 hC.2.1 dX7_readerAnswer_12 (by decide) (fun c20 => ?_) (fun c20 => ?_)
    · have h := h.1 c20
      refine lv_aload_n hC.1 hC.2.1 dX7_readerAnswer_17 rfl (lv_at hl 0 rfl) ?_
      refine gf_1_3 hC hS hk1 wq_140 dX7_readerAnswer_18 ?_
      refine lv_iload_n hC.1 hC.2.1 dX7_readerAnswer_21 rfl (lv_at hl 1 rfl) ?_
      obtain ⟨hk3, h⟩ := h
      obtain ⟨hq4, h⟩ := h
      obtain ⟨hx5, h⟩ := h
      refine g_lget (E := 7) hC hS rfl hk2 hk3 hq4 hx5.1 hx5.2 wq_187 hl ⟨Nat.le_of_ble_eq_true rfl, Nat.le_of_ble_eq_true rfl, Nat.zero_le _⟩ (Nat.le_of_ble_eq_true rfl) dX7_readerAnswer_22 ⟨Nat.le_of_ble_eq_true rfl, Nat.le_of_ble_eq_true rfl⟩ (fun j6 ej6 H locs hS => ?_)
      have h := h j6 ej6
      obtain ⟨hk7, h⟩ := h
      refine g_cast hC hS hk7 rfl (show vwCl[5]? = some (RX4, TX4, 8) from rfl) wq_228 dX7_readerAnswer_25 ?_
      refine lv_astore_n (lv' := [(3, .ref (ad 7 w j6)), (0, .ref (ad 1 w 0)), (1, .int a1), (2, .int a2)]) hC.1 hC.2.1 dX7_readerAnswer_28 rfl hl (by decide) rfl (fun ls hl => ?_)
      refine lv_iload_n hC.1 hC.2.1 dX7_readerAnswer_29 rfl (lv_at hl 3 rfl) ?_
      by_cases c8 : a2 = 0
      · have h := h.1 c8
        refine lv_tableIn (off := 42) (tgt := 72) hC.1 hC.2.1 dX7_readerAnswer_30 (by rw [c8]; decide) (by rw [c8]; decide) (by rw [c8]; decide) (by decide) ?_
        refine lv_aload_n hC.1 hC.2.1 dX7_readerAnswer_72 rfl (lv_at hl 0 rfl) ?_
        refine gn_7_1 hC hS hk7 wq_723 dX7_readerAnswer_73 ?_
        exact g_iret hC hr hlk hS h dX7_readerAnswer_76
      have h := h.2
      by_cases c9 : a2 = 1
      · have h := h.1 c9
        refine lv_tableIn (off := 47) (tgt := 77) hC.1 hC.2.1 dX7_readerAnswer_30 (by rw [c9]; decide) (by rw [c9]; decide) (by rw [c9]; decide) (by decide) ?_
        refine lv_aload_n hC.1 hC.2.1 dX7_readerAnswer_77 rfl (lv_at hl 0 rfl) ?_
        refine gn_7_2 hC hS hk7 wq_725 dX7_readerAnswer_78 ?_
        exact g_iret hC hr hlk hS h dX7_readerAnswer_81
      have h := h.2
      by_cases c10 : a2 = 2
      · have h := h.1 c10
        refine lv_tableIn (off := 52) (tgt := 82) hC.1 hC.2.1 dX7_readerAnswer_30 (by rw [c10]; decide) (by rw [c10]; decide) (by rw [c10]; decide) (by decide) ?_
        refine lv_aload_n hC.1 hC.2.1 dX7_readerAnswer_82 rfl (lv_at hl 0 rfl) ?_
        refine gn_7_3 hC hS hk7 wq_727 dX7_readerAnswer_83 ?_
        exact g_iret hC hr hlk hS h dX7_readerAnswer_86
      have h := h.2
      by_cases c11 : a2 = 3
      · have h := h.1 c11
        refine lv_tableIn (off := 57) (tgt := 87) hC.1 hC.2.1 dX7_readerAnswer_30 (by rw [c11]; decide) (by rw [c11]; decide) (by rw [c11]; decide) (by decide) ?_
        refine lv_aload_n hC.1 hC.2.1 dX7_readerAnswer_87 rfl (lv_at hl 0 rfl) ?_
        refine gn_7_4 hC hS hk7 wq_730 dX7_readerAnswer_88 ?_
        exact g_iret hC hr hlk hS h dX7_readerAnswer_91
      have h := h.2
      by_cases c14 : a2 = 4
      · have h := h.1 c14
        refine lv_tableIn (off := 62) (tgt := 92) hC.1 hC.2.1 dX7_readerAnswer_30 (by rw [c14]; decide) (by rw [c14]; decide) (by rw [c14]; decide) (by decide) ?_
        refine lv_aload_n hC.1 hC.2.1 dX7_readerAnswer_92 rfl (lv_at hl 0 rfl) ?_
        refine gn_7_5 hC hS hk7 wq_733 dX7_readerAnswer_93 ?_
        refine g_calli0 hS (g_runS (n := 1) (rest := []) (As := [.int (V 7 w j6 5 0)]) hC hS (c_J6_bitCount_0f7a4 l G ks ad (V 7 w j6 5 0) V _ h _) (gIS wq_316 wq_317 wq_65 wq_318) ⟨⟨by decide +kernel, by decide +kernel, by decide +kernel⟩, rfl, rfl, Nat.le_of_ble_eq_true rfl, Nat.le_of_ble_eq_true rfl⟩ rfl hl rfl (Nat.le_of_ble_eq_true rfl) dX7_readerAnswer_96 ⟨Nat.le_of_ble_eq_true rfl, Nat.le_of_ble_eq_true rfl⟩) (fun r13 V12 H locs h hS => ?_)
        exact g_iret hC hr hlk hS h dX7_readerAnswer_99
      have h := h.2
      by_cases c15 : a2 = 5
      · have h := h.1 c15
        refine lv_tableIn (off := 70) (tgt := 100) hC.1 hC.2.1 dX7_readerAnswer_30 (by rw [c15]; decide) (by rw [c15]; decide) (by rw [c15]; decide) (by decide) ?_
        refine lv_aload_n hC.1 hC.2.1 dX7_readerAnswer_100 rfl (lv_at hl 0 rfl) ?_
        refine gn_7_6 hC hS hk7 wq_737 dX7_readerAnswer_101 ?_
        exact g_iret hC hr hlk hS h dX7_readerAnswer_104
      have h := h.2
      by_cases c18 : a2 = 6
      · have h := h.1 c18
        refine lv_tableIn (off := 75) (tgt := 105) hC.1 hC.2.1 dX7_readerAnswer_30 (by rw [c18]; decide) (by rw [c18]; decide) (by rw [c18]; decide) (by decide) ?_
        refine lv_aload_n hC.1 hC.2.1 dX7_readerAnswer_105 rfl (lv_at hl 1 rfl) ?_
        refine lv_iload_n hC.1 hC.2.1 dX7_readerAnswer_106 rfl (lv_at hl 2 rfl) ?_
        refine g_calli0 hS (g_runV (n := 1) (rest := []) (As := [.int a1]) (C := RX7) (T := TX7) (N := 9) hC hS hk1 rfl rfl (c_X7_booksReservedBy l G ks ad w a1 V _ h _) (gI wq_322 wq_324 wq_5 wq_40 wq_325) rfl ⟨⟨by decide +kernel, by decide +kernel, by decide +kernel⟩, rfl, rfl, Nat.le_of_ble_eq_true rfl, Nat.le_of_ble_eq_true rfl⟩ rfl hl rfl (Nat.le_of_ble_eq_true rfl) dX7_readerAnswer_107 ⟨Nat.le_of_ble_eq_true rfl, Nat.le_of_ble_eq_true rfl⟩) (fun r17 V16 H locs h hS => ?_)
        exact g_iret hC hr hlk hS h dX7_readerAnswer_110
      have h := h.2
      have ht19 : a2.toInt < 0 ∨ 6 < a2.toInt := by
        have e0 : a2.toInt ≠ 0 := fun z => c8 (Int32.toInt_inj.mp (z.trans (by decide)))
        have e1 : a2.toInt ≠ 1 := fun z => c9 (Int32.toInt_inj.mp (z.trans (by decide)))
        have e2 : a2.toInt ≠ 2 := fun z => c10 (Int32.toInt_inj.mp (z.trans (by decide)))
        have e3 : a2.toInt ≠ 3 := fun z => c11 (Int32.toInt_inj.mp (z.trans (by decide)))
        have e4 : a2.toInt ≠ 4 := fun z => c14 (Int32.toInt_inj.mp (z.trans (by decide)))
        have e5 : a2.toInt ≠ 5 := fun z => c15 (Int32.toInt_inj.mp (z.trans (by decide)))
        have e6 : a2.toInt ≠ 6 := fun z => c18 (Int32.toInt_inj.mp (z.trans (by decide)))
        omega
      have h := h ht19
      refine lv_tableOut (tgt := 111) hC.1 hC.2.1 dX7_readerAnswer_30 ht19 (by decide) ?_
      refine lv_aload_n hC.1 hC.2.1 dX7_readerAnswer_111 rfl (lv_at hl 0 rfl) ?_
      refine gn_7_7 hC hS hk7 wq_740 dX7_readerAnswer_112 ?_
      exact g_iret hC hr hlk hS h dX7_readerAnswer_115
    · have h := h.2 c20
      refine lv_iconst (v := (-1)) hC.1 hC.2.1 dX7_readerAnswer_15 (by decide) ?_
      exact g_iret hC hr hlk hS h dX7_readerAnswer_16
def wp_X7_countAnswer (ks : List KY) (w : Nat) (a1 : Int32) (V : VS) (post : Int32 → VS → Prop) : Prop := ((a1 = 0 → ((1, w, 0) ∈ ks ∧ post (V 1 w 0 7 0) V)) ∧ (a1 = 1 → ((1, w, 0) ∈ ks ∧ (2, w, 0) ∈ ks ∧ post (V 2 w 0 2 0) V)) ∧ (a1 = 2 → ((1, w, 0) ∈ ks ∧ (2, w, 1) ∈ ks ∧ post (V 2 w 1 2 0) V)) ∧ (a1 = 3 → ((1, w, 0) ∈ ks ∧ (2, w, 2) ∈ ks ∧ post (V 2 w 2 2 0) V)) ∧ (a1 = 4 → ((1, w, 0) ∈ ks ∧ (2, w, 3) ∈ ks ∧ post (V 2 w 3 2 0) V)) ∧ (a1 = 5 → ((1, w, 0) ∈ ks ∧ wp_X7_booksOnVan ks w V (fun r17 V15 => (post r17 V15)))) ∧ (a1 = 6 → ((1, w, 0) ∈ ks ∧ wp_X7_loansOfAll ks w V (fun r21 V19 => (post r21 V19)))) ∧ (a1 = 7 → ((1, w, 0) ∈ ks ∧ wp_X7_penceOfAll ks w V (fun r25 V23 => (post r25 V23)))) ∧ (a1 = 8 → ((1, w, 0) ∈ ks ∧ wp_X7_lanesTooMuddy ks w V (fun r29 V27 => (post r29 V27)))) ∧ ((a1.toInt < 0 ∨ 8 < a1.toInt) → ((1, w, 0) ∈ ks ∧ post (V 1 w 0 8 0) V)))
set_option maxHeartbeats 4000000 in
set_option maxRecDepth 100000 in
theorem c_X7_countAnswer (l : Launch) (G : GG) (ks : List KY) (ad : AD) (w : Nat) (a1 : Int32) (V : VS) (post : Int32 → VS → Prop) (h : wp_X7_countAnswer ks w a1 V post) (sz : Nat) : Met l yX7_countAnswer (ws_ yX7_countAnswer cX7_countAnswer 2 (some .int)) ({ frames := 4, cells := 0, slots := 0, locals := 86 }) (mPc [.ref (ad 1 w 0), .int a1] G ks ad V sz) (mQi post G ks ad sz) 0 0 (mA ks ad sz) := by
  refine g_met (own := RX7) (by decide) rfl (Nat.le_of_ble_eq_true rfl) ?_
  intro p e s m args below meth c ls hC hsz hr hlk hin hS ha hl
  have hl : lv_has ls 2 [(0, .ref (ad 1 w 0)), (1, .int a1)] := hl
  unfold wp_X7_countAnswer at h
  refine lv_iload_n hC.1 hC.2.1 dX7_countAnswer_0 rfl (lv_at hl 1 rfl) ?_
  by_cases c2 : a1 = 0
  · have h := h.1 c2
    refine lv_tableIn (off := 51) (tgt := 52) hC.1 hC.2.1 dX7_countAnswer_1 (by rw [c2]; decide) (by rw [c2]; decide) (by rw [c2]; decide) (by decide) ?_
    refine lv_aload_n hC.1 hC.2.1 dX7_countAnswer_52 rfl (lv_at hl 0 rfl) ?_
    obtain ⟨hk1, h⟩ := h
    refine gf_1_7 hC hS hk1 wq_146 dX7_countAnswer_53 ?_
    exact g_iret hC hr hlk hS h dX7_countAnswer_56
  have h := h.2
  by_cases c5 : a1 = 1
  · have h := h.1 c5
    refine lv_tableIn (off := 56) (tgt := 57) hC.1 hC.2.1 dX7_countAnswer_1 (by rw [c5]; decide) (by rw [c5]; decide) (by rw [c5]; decide) (by decide) ?_
    refine lv_aload_n hC.1 hC.2.1 dX7_countAnswer_57 rfl (lv_at hl 0 rfl) ?_
    obtain ⟨hk3, h⟩ := h
    refine gf_1_0 hC hS hk3 wq_134 dX7_countAnswer_58 ?_
    obtain ⟨hk4, h⟩ := h
    refine g_lsize hC hS hk4 wq_183 hl ⟨Nat.le_of_ble_eq_true rfl, Nat.le_of_ble_eq_true rfl, Nat.zero_le _⟩ (Nat.le_of_ble_eq_true rfl) dX7_countAnswer_61 ⟨Nat.le_of_ble_eq_true rfl, Nat.le_of_ble_eq_true rfl⟩ (fun H locs hS => ?_)
    exact g_iret hC hr hlk hS h dX7_countAnswer_64
  have h := h.2
  by_cases c8 : a1 = 2
  · have h := h.1 c8
    refine lv_tableIn (off := 64) (tgt := 65) hC.1 hC.2.1 dX7_countAnswer_1 (by rw [c8]; decide) (by rw [c8]; decide) (by rw [c8]; decide) (by decide) ?_
    refine lv_aload_n hC.1 hC.2.1 dX7_countAnswer_65 rfl (lv_at hl 0 rfl) ?_
    obtain ⟨hk6, h⟩ := h
    refine gf_1_1 hC hS hk6 wq_136 dX7_countAnswer_66 ?_
    obtain ⟨hk7, h⟩ := h
    refine g_lsize hC hS hk7 wq_183 hl ⟨Nat.le_of_ble_eq_true rfl, Nat.le_of_ble_eq_true rfl, Nat.zero_le _⟩ (Nat.le_of_ble_eq_true rfl) dX7_countAnswer_69 ⟨Nat.le_of_ble_eq_true rfl, Nat.le_of_ble_eq_true rfl⟩ (fun H locs hS => ?_)
    exact g_iret hC hr hlk hS h dX7_countAnswer_72
  have h := h.2
  by_cases c11 : a1 = 3
  · have h := h.1 c11
    refine lv_tableIn (off := 72) (tgt := 73) hC.1 hC.2.1 dX7_countAnswer_1 (by rw [c11]; decide) (by rw [c11]; decide) (by rw [c11]; decide) (by decide) ?_
    refine lv_aload_n hC.1 hC.2.1 dX7_countAnswer_73 rfl (lv_at hl 0 rfl) ?_
    obtain ⟨hk9, h⟩ := h
    refine gf_1_2 hC hS hk9 wq_138 dX7_countAnswer_74 ?_
    obtain ⟨hk10, h⟩ := h
    refine g_lsize hC hS hk10 wq_183 hl ⟨Nat.le_of_ble_eq_true rfl, Nat.le_of_ble_eq_true rfl, Nat.zero_le _⟩ (Nat.le_of_ble_eq_true rfl) dX7_countAnswer_77 ⟨Nat.le_of_ble_eq_true rfl, Nat.le_of_ble_eq_true rfl⟩ (fun H locs hS => ?_)
    exact g_iret hC hr hlk hS h dX7_countAnswer_80
  have h := h.2
  by_cases c14 : a1 = 4
  · have h := h.1 c14
    refine lv_tableIn (off := 80) (tgt := 81) hC.1 hC.2.1 dX7_countAnswer_1 (by rw [c14]; decide) (by rw [c14]; decide) (by rw [c14]; decide) (by decide) ?_
    refine lv_aload_n hC.1 hC.2.1 dX7_countAnswer_81 rfl (lv_at hl 0 rfl) ?_
    obtain ⟨hk12, h⟩ := h
    refine gf_1_3 hC hS hk12 wq_140 dX7_countAnswer_82 ?_
    obtain ⟨hk13, h⟩ := h
    refine g_lsize hC hS hk13 wq_183 hl ⟨Nat.le_of_ble_eq_true rfl, Nat.le_of_ble_eq_true rfl, Nat.zero_le _⟩ (Nat.le_of_ble_eq_true rfl) dX7_countAnswer_85 ⟨Nat.le_of_ble_eq_true rfl, Nat.le_of_ble_eq_true rfl⟩ (fun H locs hS => ?_)
    exact g_iret hC hr hlk hS h dX7_countAnswer_88
  have h := h.2
  by_cases c18 : a1 = 5
  · have h := h.1 c18
    refine lv_tableIn (off := 88) (tgt := 89) hC.1 hC.2.1 dX7_countAnswer_1 (by rw [c18]; decide) (by rw [c18]; decide) (by rw [c18]; decide) (by decide) ?_
    refine lv_aload_n hC.1 hC.2.1 dX7_countAnswer_89 rfl (lv_at hl 0 rfl) ?_
    obtain ⟨hk16, h⟩ := h
    refine g_calli0 hS (g_runV (n := 0) (rest := []) (As := []) (C := RX7) (T := TX7) (N := 9) hC hS hk16 rfl rfl (c_X7_booksOnVan l G ks ad w V _ h _) (gI wq_215 wq_216 wq_217 wq_40 wq_218) rfl ⟨⟨by decide +kernel, by decide +kernel, by decide +kernel⟩, rfl, rfl, Nat.le_of_ble_eq_true rfl, Nat.le_of_ble_eq_true rfl⟩ rfl hl rfl (Nat.le_of_ble_eq_true rfl) dX7_countAnswer_90 ⟨Nat.le_of_ble_eq_true rfl, Nat.le_of_ble_eq_true rfl⟩) (fun r17 V15 H locs h hS => ?_)
    exact g_iret hC hr hlk hS h dX7_countAnswer_93
  have h := h.2
  by_cases c22 : a1 = 6
  · have h := h.1 c22
    refine lv_tableIn (off := 93) (tgt := 94) hC.1 hC.2.1 dX7_countAnswer_1 (by rw [c22]; decide) (by rw [c22]; decide) (by rw [c22]; decide) (by decide) ?_
    refine lv_aload_n hC.1 hC.2.1 dX7_countAnswer_94 rfl (lv_at hl 0 rfl) ?_
    obtain ⟨hk20, h⟩ := h
    refine g_calli0 hS (g_runV (n := 0) (rest := []) (As := []) (C := RX7) (T := TX7) (N := 9) hC hS hk20 rfl rfl (c_X7_loansOfAll l G ks ad w V _ h _) (gI wq_223 wq_180 wq_181 wq_40 wq_182) rfl ⟨⟨by decide +kernel, by decide +kernel, by decide +kernel⟩, rfl, rfl, Nat.le_of_ble_eq_true rfl, Nat.le_of_ble_eq_true rfl⟩ rfl hl rfl (Nat.le_of_ble_eq_true rfl) dX7_countAnswer_95 ⟨Nat.le_of_ble_eq_true rfl, Nat.le_of_ble_eq_true rfl⟩) (fun r21 V19 H locs h hS => ?_)
    exact g_iret hC hr hlk hS h dX7_countAnswer_98
  have h := h.2
  by_cases c26 : a1 = 7
  · have h := h.1 c26
    refine lv_tableIn (off := 98) (tgt := 99) hC.1 hC.2.1 dX7_countAnswer_1 (by rw [c26]; decide) (by rw [c26]; decide) (by rw [c26]; decide) (by decide) ?_
    refine lv_aload_n hC.1 hC.2.1 dX7_countAnswer_99 rfl (lv_at hl 0 rfl) ?_
    obtain ⟨hk24, h⟩ := h
    refine g_calli0 hS (g_runV (n := 0) (rest := []) (As := []) (C := RX7) (T := TX7) (N := 9) hC hS hk24 rfl rfl (c_X7_penceOfAll l G ks ad w V _ h _) (gI wq_224 wq_225 wq_226 wq_40 wq_227) rfl ⟨⟨by decide +kernel, by decide +kernel, by decide +kernel⟩, rfl, rfl, Nat.le_of_ble_eq_true rfl, Nat.le_of_ble_eq_true rfl⟩ rfl hl rfl (Nat.le_of_ble_eq_true rfl) dX7_countAnswer_100 ⟨Nat.le_of_ble_eq_true rfl, Nat.le_of_ble_eq_true rfl⟩) (fun r25 V23 H locs h hS => ?_)
    exact g_iret hC hr hlk hS h dX7_countAnswer_103
  have h := h.2
  by_cases c30 : a1 = 8
  · have h := h.1 c30
    refine lv_tableIn (off := 103) (tgt := 104) hC.1 hC.2.1 dX7_countAnswer_1 (by rw [c30]; decide) (by rw [c30]; decide) (by rw [c30]; decide) (by decide) ?_
    refine lv_aload_n hC.1 hC.2.1 dX7_countAnswer_104 rfl (lv_at hl 0 rfl) ?_
    obtain ⟨hk28, h⟩ := h
    refine g_calli0 hS (g_runV (n := 0) (rest := []) (As := []) (C := RX7) (T := TX7) (N := 9) hC hS hk28 rfl rfl (c_X7_lanesTooMuddy l G ks ad w V _ h _) (gI wq_229 wq_231 wq_0 wq_40 wq_232) rfl ⟨⟨by decide +kernel, by decide +kernel, by decide +kernel⟩, rfl, rfl, Nat.le_of_ble_eq_true rfl, Nat.le_of_ble_eq_true rfl⟩ rfl hl rfl (Nat.le_of_ble_eq_true rfl) dX7_countAnswer_105 ⟨Nat.le_of_ble_eq_true rfl, Nat.le_of_ble_eq_true rfl⟩) (fun r29 V27 H locs h hS => ?_)
    exact g_iret hC hr hlk hS h dX7_countAnswer_108
  have h := h.2
  have ht32 : a1.toInt < 0 ∨ 8 < a1.toInt := by
    have e0 : a1.toInt ≠ 0 := fun z => c2 (Int32.toInt_inj.mp (z.trans (by decide)))
    have e1 : a1.toInt ≠ 1 := fun z => c5 (Int32.toInt_inj.mp (z.trans (by decide)))
    have e2 : a1.toInt ≠ 2 := fun z => c8 (Int32.toInt_inj.mp (z.trans (by decide)))
    have e3 : a1.toInt ≠ 3 := fun z => c11 (Int32.toInt_inj.mp (z.trans (by decide)))
    have e4 : a1.toInt ≠ 4 := fun z => c14 (Int32.toInt_inj.mp (z.trans (by decide)))
    have e5 : a1.toInt ≠ 5 := fun z => c18 (Int32.toInt_inj.mp (z.trans (by decide)))
    have e6 : a1.toInt ≠ 6 := fun z => c22 (Int32.toInt_inj.mp (z.trans (by decide)))
    have e7 : a1.toInt ≠ 7 := fun z => c26 (Int32.toInt_inj.mp (z.trans (by decide)))
    have e8 : a1.toInt ≠ 8 := fun z => c30 (Int32.toInt_inj.mp (z.trans (by decide)))
    omega
  have h := h ht32
  refine lv_tableOut (tgt := 109) hC.1 hC.2.1 dX7_countAnswer_1 ht32 (by decide) ?_
  refine lv_aload_n hC.1 hC.2.1 dX7_countAnswer_109 rfl (lv_at hl 0 rfl) ?_
  obtain ⟨hk31, h⟩ := h
  refine gf_1_8 hC hS hk31 wq_148 dX7_countAnswer_110 ?_
  exact g_iret hC hr hlk hS h dX7_countAnswer_113
def wk_X7_mixVan_61 (ks : List KY) (w : Nat) (a1 : Int64) (post : Int64 → VS → Prop) (B61 : Int64 → Int32 → VS → Prop) (x3 : Int64) (x5 : Int32) (V : VS) : Prop := ((1, w, 0) ∈ ks ∧ (12, w, 0) ∈ ks ∧ wp_X5_size ks w V (fun r4 V2 => ((r4 ≤ x5 → (post x3 V2)) ∧ (¬ (r4 ≤ x5) → (wp_X5_haltAt ks w x5 V2 (fun r6 V5 => (wp_X8_mix ks x3 r6.toInt64 V5 (fun r8 V7 => (∀ y9 : Int32, y9 = x5 + 1 → B61 r8 y9 V7)))))))))
def wl_X7_mixVan_61 (ks : List KY) (w : Nat) (a1 : Int64) (post : Int64 → VS → Prop) (x3 : Int64) (x5 : Int32) (V : VS) : Prop := ∃ J : Nat → Int64 → Int32 → VS → Prop, (∃ n, J n x3 x5 V) ∧ ∀ (n : Nat) (x3 : Int64) (x5 : Int32) (V : VS), J n x3 x5 V → wk_X7_mixVan_61 ks w a1 post (fun x3 x5 V => ∃ n', n' < n ∧ J n' x3 x5 V) x3 x5 V
def wk_X7_mixVan_33 (ks : List KY) (w : Nat) (a1 : Int64) (post : Int64 → VS → Prop) (B33 : Int64 → Int32 → VS → Prop) (x3 : Int64) (x5 : Int32) (V : VS) : Prop := (((7 : Int32) ≤ x5 → (wl_X7_mixVan_61 ks w a1 post x3 0 V)) ∧ (¬ ((7 : Int32) ≤ x5) → ((1, w, 0) ∈ ks ∧ wp_X7_rainOf ks w x5 V (fun r13 V11 => (wp_X8_mix ks x3 r13.toInt64 V11 (fun r15 V14 => (∀ y16 : Int32, y16 = x5 + 1 → B33 r15 y16 V14)))))))
def wl_X7_mixVan_33 (ks : List KY) (w : Nat) (a1 : Int64) (post : Int64 → VS → Prop) (x3 : Int64) (x5 : Int32) (V : VS) : Prop := ∃ J : Nat → Int64 → Int32 → VS → Prop, (∃ n, J n x3 x5 V) ∧ ∀ (n : Nat) (x3 : Int64) (x5 : Int32) (V : VS), J n x3 x5 V → wk_X7_mixVan_33 ks w a1 post (fun x3 x5 V => ∃ n', n' < n ∧ J n' x3 x5 V) x3 x5 V
def wk_X7_mixVan_5 (ks : List KY) (w : Nat) (a1 : Int64) (post : Int64 → VS → Prop) (B5 : Int64 → Int32 → VS → Prop) (x3 : Int64) (x5 : Int32) (V : VS) : Prop := (((10 : Int32) ≤ x5 → (wl_X7_mixVan_33 ks w a1 post x3 0 V)) ∧ (¬ ((10 : Int32) ≤ x5) → ((1, w, 0) ∈ ks ∧ wp_X7_countAnswer ks w x5 V (fun r20 V18 => (wp_X8_mix ks x3 r20.toInt64 V18 (fun r22 V21 => (∀ y23 : Int32, y23 = x5 + 1 → B5 r22 y23 V21)))))))
def wl_X7_mixVan_5 (ks : List KY) (w : Nat) (a1 : Int64) (post : Int64 → VS → Prop) (x3 : Int64) (x5 : Int32) (V : VS) : Prop := ∃ J : Nat → Int64 → Int32 → VS → Prop, (∃ n, J n x3 x5 V) ∧ ∀ (n : Nat) (x3 : Int64) (x5 : Int32) (V : VS), J n x3 x5 V → wk_X7_mixVan_5 ks w a1 post (fun x3 x5 V => ∃ n', n' < n ∧ J n' x3 x5 V) x3 x5 V
def wp_X7_mixVan (ks : List KY) (w : Nat) (a1 : Int64) (V : VS) (post : Int64 → VS → Prop) : Prop := (wl_X7_mixVan_5 ks w a1 post a1 0 V)
set_option maxHeartbeats 4000000 in
set_option maxRecDepth 100000 in
theorem c_X7_mixVan (l : Launch) (G : GG) (ks : List KY) (ad : AD) (w : Nat) (a1 : Int64) (V : VS) (post : Int64 → VS → Prop) (h : wp_X7_mixVan ks w a1 V post) (sz : Nat) : Met l yX7_mixVan (ws_ yX7_mixVan cX7_mixVan 6 (some .long)) ({ frames := 5, cells := 0, slots := 0, locals := 107 }) (mPc [.ref (ad 1 w 0), .long a1] G ks ad V sz) (mQl post G ks ad sz) 0 0 (mA ks ad sz) := by
  refine g_met (own := RX7) (by decide) rfl (Nat.le_of_ble_eq_true rfl) ?_
  intro p e s m args below meth c ls hC hsz hr hlk hin hS ha hl
  have hl : lv_has ls 6 [(0, .ref (ad 1 w 0)), (1, .long a1)] := hl
  unfold wp_X7_mixVan at h
  have kT61 : ∀ (x3 : Int64) (x5 : Int32) (V : VS) (H : Heap) (locs : List Loc) (ls : Array Slot), wl_X7_mixVan_61 ks w a1 post x3 x5 V → ST G ks ad V (mA ks ad sz) s.heap H locs → lv_has ls 6 [(0, .ref (ad 1 w 0)), (3, .long x3), (5, .int x5)] → W p l e ({ frames := 5, cells := 0, slots := 0, locals := 107 } : Room) s m args below meth c H locs 0 0 (MQ below (mQl post G ks ad sz) args s 0 0 (mA ks ad sz)) (F0 m 61 ls []) := by
    intro x3 x5 V H locs ls h hS hl
    obtain ⟨J, ⟨n, hJ⟩, hb⟩ := h
    induction n using Nat.strongRecOn generalizing x3 x5 V H locs ls with
    | _ n ih =>
      have h := hb n x3 x5 V hJ
      obtain ⟨B61, eB⟩ : ∃ z : Int64 → Int32 → VS → Prop, z = (fun x3 x5 V => ∃ n', n' < n ∧ J n' x3 x5 V) := ⟨_, rfl⟩
      rw [← eB] at h
      have kB61 : ∀ (x3 : Int64) (x5 : Int32) (V : VS) (H : Heap) (locs : List Loc) (ls : Array Slot), B61 x3 x5 V → ST G ks ad V (mA ks ad sz) s.heap H locs → lv_has ls 6 [(0, .ref (ad 1 w 0)), (3, .long x3), (5, .int x5)] → W p l e ({ frames := 5, cells := 0, slots := 0, locals := 107 } : Room) s m args below meth c H locs 0 0 (MQ below (mQl post G ks ad sz) args s 0 0 (mA ks ad sz)) (F0 m 61 ls []) := by
        intro x3 x5 V H locs ls h hS hl
        rw [eB] at h
        obtain ⟨n', hn, hJ'⟩ := h
        exact ih n' hn _ _ _ _ _ _ hS hl hJ'
      clear ih hJ hb eB
      unfold wk_X7_mixVan_61 at h
      refine lv_iload hC.1 hC.2.1 dX7_mixVan_61 (lv_at hl 2 rfl) ?_
      refine lv_aload_n hC.1 hC.2.1 dX7_mixVan_63 rfl (lv_at hl 0 rfl) ?_
      obtain ⟨hk1, h⟩ := h
      refine gf_1_5 hC hS hk1 wq_143 dX7_mixVan_64 ?_
      obtain ⟨hk3, h⟩ := h
      refine g_calli0 hS (g_runV (n := 0) (rest := [.int x5]) (As := []) (C := RX5) (T := TX5) (N := 3) hC hS hk3 rfl rfl (c_X5_size l G ks ad w V _ h _) (gI wq_246 wq_247 wq_248 wq_45 wq_249) rfl ⟨⟨by decide +kernel, by decide +kernel, by decide +kernel⟩, rfl, rfl, Nat.le_of_ble_eq_true rfl, Nat.le_of_ble_eq_true rfl⟩ rfl hl rfl (Nat.le_of_ble_eq_true rfl) dX7_mixVan_67 ⟨Nat.le_of_ble_eq_true rfl, Nat.le_of_ble_eq_true rfl⟩) (fun r4 V2 H locs h hS => ?_)
      refine lv_icmp_ge (tgt := 94) hC.1 hC.2.1 dX7_mixVan_70 (by decide) (fun c10 => ?_) (fun c10 => ?_)
      · have h := h.1 c10
        refine lv_lload_n hC.1 hC.2.1 dX7_mixVan_94 rfl (lv_at hl 1 rfl) ?_
        exact g_lret hC hr hlk hS h dX7_mixVan_95
      · have h := h.2 c10
        refine lv_lload_n hC.1 hC.2.1 dX7_mixVan_73 rfl (lv_at hl 1 rfl) ?_
        refine lv_aload_n hC.1 hC.2.1 dX7_mixVan_74 rfl (lv_at hl 0 rfl) ?_
        refine gf_1_5 hC hS hk1 wq_143 dX7_mixVan_75 ?_
        refine lv_iload hC.1 hC.2.1 dX7_mixVan_78 (lv_at hl 2 rfl) ?_
        refine g_calli0 hS (g_runV (n := 1) (rest := [.long x3]) (As := [.int x5]) (C := RX5) (T := TX5) (N := 3) hC hS hk3 rfl rfl (c_X5_haltAt l G ks ad w x5 V2 _ h _) (gI wq_250 wq_251 wq_252 wq_45 wq_253) rfl ⟨⟨by decide +kernel, by decide +kernel, by decide +kernel⟩, rfl, rfl, Nat.le_of_ble_eq_true rfl, Nat.le_of_ble_eq_true rfl⟩ rfl hl rfl (Nat.le_of_ble_eq_true rfl) dX7_mixVan_80 ⟨Nat.le_of_ble_eq_true rfl, Nat.le_of_ble_eq_true rfl⟩) (fun r6 V5 H locs h hS => ?_)
        refine lv_i2l hC.1 hC.2.1 dX7_mixVan_83 rfl ?_
        refine g_calll0 hS (g_runSN (n := 2) (rest := []) (As := [.long x3, .long r6.toInt64]) hC hS (c_X8_mix l G ks ad x3 r6.toInt64 V5 _ h _) wq_238 wq_239 wq_39 wq_240 ⟨⟨by decide +kernel, by decide +kernel, by decide +kernel⟩, rfl, rfl, Nat.le_of_ble_eq_true rfl, Nat.le_of_ble_eq_true rfl⟩ rfl hl rfl (Nat.le_of_ble_eq_true rfl) dX7_mixVan_84 ⟨Nat.le_of_ble_eq_true rfl, Nat.le_of_ble_eq_true rfl⟩) (fun r8 V7 H locs h hS => ?_)
        refine lv_lstore_n (lv' := [(3, .long r8), (0, .ref (ad 1 w 0)), (5, .int x5)]) hC.1 hC.2.1 dX7_mixVan_87 rfl hl (by decide) rfl (fun ls hl => ?_)
        obtain ⟨y9, ey9⟩ : ∃ z : Int32, z = x5 + 1 := ⟨_, rfl⟩
        have h := h y9 ey9
        refine lv_iinc (v := y9) (lv' := [(5, .int y9), (3, .long r8), (0, .ref (ad 1 w 0))]) hC.1 hC.2.1 dX7_mixVan_88 hl (k := 2) rfl (by rw [ey9]; rfl) (by decide) rfl (fun ls hl => ?_)
        refine lv_goto (tgt := 61) hC.1 hC.2.1 dX7_mixVan_91 (by decide) ?_
        exact kB61 _ _ _ _ _ _ h hS (lv_sub hl [2, 1, 0] rfl)
  have kT33 : ∀ (x3 : Int64) (x5 : Int32) (V : VS) (H : Heap) (locs : List Loc) (ls : Array Slot), wl_X7_mixVan_33 ks w a1 post x3 x5 V → ST G ks ad V (mA ks ad sz) s.heap H locs → lv_has ls 6 [(0, .ref (ad 1 w 0)), (3, .long x3), (5, .int x5)] → W p l e ({ frames := 5, cells := 0, slots := 0, locals := 107 } : Room) s m args below meth c H locs 0 0 (MQ below (mQl post G ks ad sz) args s 0 0 (mA ks ad sz)) (F0 m 33 ls []) := by
    intro x3 x5 V H locs ls h hS hl
    obtain ⟨J, ⟨n, hJ⟩, hb⟩ := h
    induction n using Nat.strongRecOn generalizing x3 x5 V H locs ls with
    | _ n ih =>
      have h := hb n x3 x5 V hJ
      obtain ⟨B33, eB⟩ : ∃ z : Int64 → Int32 → VS → Prop, z = (fun x3 x5 V => ∃ n', n' < n ∧ J n' x3 x5 V) := ⟨_, rfl⟩
      rw [← eB] at h
      have kB33 : ∀ (x3 : Int64) (x5 : Int32) (V : VS) (H : Heap) (locs : List Loc) (ls : Array Slot), B33 x3 x5 V → ST G ks ad V (mA ks ad sz) s.heap H locs → lv_has ls 6 [(0, .ref (ad 1 w 0)), (3, .long x3), (5, .int x5)] → W p l e ({ frames := 5, cells := 0, slots := 0, locals := 107 } : Room) s m args below meth c H locs 0 0 (MQ below (mQl post G ks ad sz) args s 0 0 (mA ks ad sz)) (F0 m 33 ls []) := by
        intro x3 x5 V H locs ls h hS hl
        rw [eB] at h
        obtain ⟨n', hn, hJ'⟩ := h
        exact ih n' hn _ _ _ _ _ _ hS hl hJ'
      clear ih hJ hb eB
      unfold wk_X7_mixVan_33 at h
      refine lv_iload hC.1 hC.2.1 dX7_mixVan_33 (lv_at hl 2 rfl) ?_
      refine lv_bipush (v := 7) hC.1 hC.2.1 dX7_mixVan_35 (by decide) ?_
      refine lv_icmp_ge (tgt := 58) hC.1 hC.2.1 dX7_mixVan_37 (by decide) (fun c17 => ?_) (fun c17 => ?_)
      · have h := h.1 c17
        refine lv_iconst (v := 0) hC.1 hC.2.1 dX7_mixVan_58 (by decide) ?_
        refine lv_istore (lv' := [(5, .int 0), (0, .ref (ad 1 w 0)), (3, .long x3)]) hC.1 hC.2.1 dX7_mixVan_59 hl (by decide) rfl (fun ls hl => ?_)
        exact kT61 _ _ _ _ _ _ h hS (lv_sub hl [1, 2, 0] rfl)
      · have h := h.2 c17
        refine lv_lload_n hC.1 hC.2.1 dX7_mixVan_40 rfl (lv_at hl 1 rfl) ?_
        refine lv_aload_n hC.1 hC.2.1 dX7_mixVan_41 rfl (lv_at hl 0 rfl) ?_
        refine lv_iload hC.1 hC.2.1 dX7_mixVan_42 (lv_at hl 2 rfl) ?_
        obtain ⟨hk12, h⟩ := h
        refine g_calli0 hS (g_runV (n := 1) (rest := [.long x3]) (As := [.int x5]) (C := RX7) (T := TX7) (N := 9) hC hS hk12 rfl rfl (c_X7_rainOf l G ks ad w x5 V _ h _) (gI wq_242 wq_244 wq_1 wq_40 wq_245) rfl ⟨⟨by decide +kernel, by decide +kernel, by decide +kernel⟩, rfl, rfl, Nat.le_of_ble_eq_true rfl, Nat.le_of_ble_eq_true rfl⟩ rfl hl rfl (Nat.le_of_ble_eq_true rfl) dX7_mixVan_44 ⟨Nat.le_of_ble_eq_true rfl, Nat.le_of_ble_eq_true rfl⟩) (fun r13 V11 H locs h hS => ?_)
        refine lv_i2l hC.1 hC.2.1 dX7_mixVan_47 rfl ?_
        refine g_calll0 hS (g_runSN (n := 2) (rest := []) (As := [.long x3, .long r13.toInt64]) hC hS (c_X8_mix l G ks ad x3 r13.toInt64 V11 _ h _) wq_238 wq_239 wq_39 wq_240 ⟨⟨by decide +kernel, by decide +kernel, by decide +kernel⟩, rfl, rfl, Nat.le_of_ble_eq_true rfl, Nat.le_of_ble_eq_true rfl⟩ rfl hl rfl (Nat.le_of_ble_eq_true rfl) dX7_mixVan_48 ⟨Nat.le_of_ble_eq_true rfl, Nat.le_of_ble_eq_true rfl⟩) (fun r15 V14 H locs h hS => ?_)
        refine lv_lstore_n (lv' := [(3, .long r15), (0, .ref (ad 1 w 0)), (5, .int x5)]) hC.1 hC.2.1 dX7_mixVan_51 rfl hl (by decide) rfl (fun ls hl => ?_)
        obtain ⟨y16, ey16⟩ : ∃ z : Int32, z = x5 + 1 := ⟨_, rfl⟩
        have h := h y16 ey16
        refine lv_iinc (v := y16) (lv' := [(5, .int y16), (3, .long r15), (0, .ref (ad 1 w 0))]) hC.1 hC.2.1 dX7_mixVan_52 hl (k := 2) rfl (by rw [ey16]; rfl) (by decide) rfl (fun ls hl => ?_)
        refine lv_goto (tgt := 33) hC.1 hC.2.1 dX7_mixVan_55 (by decide) ?_
        exact kB33 _ _ _ _ _ _ h hS (lv_sub hl [2, 1, 0] rfl)
  have kT5 : ∀ (x3 : Int64) (x5 : Int32) (V : VS) (H : Heap) (locs : List Loc) (ls : Array Slot), wl_X7_mixVan_5 ks w a1 post x3 x5 V → ST G ks ad V (mA ks ad sz) s.heap H locs → lv_has ls 6 [(0, .ref (ad 1 w 0)), (3, .long x3), (5, .int x5)] → W p l e ({ frames := 5, cells := 0, slots := 0, locals := 107 } : Room) s m args below meth c H locs 0 0 (MQ below (mQl post G ks ad sz) args s 0 0 (mA ks ad sz)) (F0 m 5 ls []) := by
    intro x3 x5 V H locs ls h hS hl
    obtain ⟨J, ⟨n, hJ⟩, hb⟩ := h
    induction n using Nat.strongRecOn generalizing x3 x5 V H locs ls with
    | _ n ih =>
      have h := hb n x3 x5 V hJ
      obtain ⟨B5, eB⟩ : ∃ z : Int64 → Int32 → VS → Prop, z = (fun x3 x5 V => ∃ n', n' < n ∧ J n' x3 x5 V) := ⟨_, rfl⟩
      rw [← eB] at h
      have kB5 : ∀ (x3 : Int64) (x5 : Int32) (V : VS) (H : Heap) (locs : List Loc) (ls : Array Slot), B5 x3 x5 V → ST G ks ad V (mA ks ad sz) s.heap H locs → lv_has ls 6 [(0, .ref (ad 1 w 0)), (3, .long x3), (5, .int x5)] → W p l e ({ frames := 5, cells := 0, slots := 0, locals := 107 } : Room) s m args below meth c H locs 0 0 (MQ below (mQl post G ks ad sz) args s 0 0 (mA ks ad sz)) (F0 m 5 ls []) := by
        intro x3 x5 V H locs ls h hS hl
        rw [eB] at h
        obtain ⟨n', hn, hJ'⟩ := h
        exact ih n' hn _ _ _ _ _ _ hS hl hJ'
      clear ih hJ hb eB
      unfold wk_X7_mixVan_5 at h
      refine lv_iload hC.1 hC.2.1 dX7_mixVan_5 (lv_at hl 2 rfl) ?_
      refine lv_bipush (v := 10) hC.1 hC.2.1 dX7_mixVan_7 (by decide) ?_
      refine lv_icmp_ge (tgt := 30) hC.1 hC.2.1 dX7_mixVan_9 (by decide) (fun c24 => ?_) (fun c24 => ?_)
      · have h := h.1 c24
        refine lv_iconst (v := 0) hC.1 hC.2.1 dX7_mixVan_30 (by decide) ?_
        refine lv_istore (lv' := [(5, .int 0), (0, .ref (ad 1 w 0)), (3, .long x3)]) hC.1 hC.2.1 dX7_mixVan_31 hl (by decide) rfl (fun ls hl => ?_)
        exact kT33 _ _ _ _ _ _ h hS (lv_sub hl [1, 2, 0] rfl)
      · have h := h.2 c24
        refine lv_lload_n hC.1 hC.2.1 dX7_mixVan_12 rfl (lv_at hl 1 rfl) ?_
        refine lv_aload_n hC.1 hC.2.1 dX7_mixVan_13 rfl (lv_at hl 0 rfl) ?_
        refine lv_iload hC.1 hC.2.1 dX7_mixVan_14 (lv_at hl 2 rfl) ?_
        obtain ⟨hk19, h⟩ := h
        refine g_calli0 hS (g_runV (n := 1) (rest := [.long x3]) (As := [.int x5]) (C := RX7) (T := TX7) (N := 9) hC hS hk19 rfl rfl (c_X7_countAnswer l G ks ad w x5 V _ h _) (gI wq_211 wq_212 wq_213 wq_40 wq_214) rfl ⟨⟨by decide +kernel, by decide +kernel, by decide +kernel⟩, rfl, rfl, Nat.le_of_ble_eq_true rfl, Nat.le_of_ble_eq_true rfl⟩ rfl hl rfl (Nat.le_of_ble_eq_true rfl) dX7_mixVan_16 ⟨Nat.le_of_ble_eq_true rfl, Nat.le_of_ble_eq_true rfl⟩) (fun r20 V18 H locs h hS => ?_)
        refine lv_i2l hC.1 hC.2.1 dX7_mixVan_19 rfl ?_
        refine g_calll0 hS (g_runSN (n := 2) (rest := []) (As := [.long x3, .long r20.toInt64]) hC hS (c_X8_mix l G ks ad x3 r20.toInt64 V18 _ h _) wq_238 wq_239 wq_39 wq_240 ⟨⟨by decide +kernel, by decide +kernel, by decide +kernel⟩, rfl, rfl, Nat.le_of_ble_eq_true rfl, Nat.le_of_ble_eq_true rfl⟩ rfl hl rfl (Nat.le_of_ble_eq_true rfl) dX7_mixVan_20 ⟨Nat.le_of_ble_eq_true rfl, Nat.le_of_ble_eq_true rfl⟩) (fun r22 V21 H locs h hS => ?_)
        refine lv_lstore_n (lv' := [(3, .long r22), (0, .ref (ad 1 w 0)), (5, .int x5)]) hC.1 hC.2.1 dX7_mixVan_23 rfl hl (by decide) rfl (fun ls hl => ?_)
        obtain ⟨y23, ey23⟩ : ∃ z : Int32, z = x5 + 1 := ⟨_, rfl⟩
        have h := h y23 ey23
        refine lv_iinc (v := y23) (lv' := [(5, .int y23), (3, .long r22), (0, .ref (ad 1 w 0))]) hC.1 hC.2.1 dX7_mixVan_24 hl (k := 2) rfl (by rw [ey23]; rfl) (by decide) rfl (fun ls hl => ?_)
        refine lv_goto (tgt := 5) hC.1 hC.2.1 dX7_mixVan_27 (by decide) ?_
        exact kB5 _ _ _ _ _ _ h hS (lv_sub hl [2, 1, 0] rfl)
  refine lv_lload_n hC.1 hC.2.1 dX7_mixVan_0 rfl (lv_at hl 1 rfl) ?_
  refine lv_lstore_n (lv' := [(3, .long a1), (0, .ref (ad 1 w 0)), (1, .long a1)]) hC.1 hC.2.1 dX7_mixVan_1 rfl hl (by decide) rfl (fun ls hl => ?_)
  refine lv_iconst (v := 0) hC.1 hC.2.1 dX7_mixVan_2 (by decide) ?_
  refine lv_istore (lv' := [(5, .int 0), (3, .long a1), (0, .ref (ad 1 w 0)), (1, .long a1)]) hC.1 hC.2.1 dX7_mixVan_3 hl (by decide) rfl (fun ls hl => ?_)
  exact kT5 _ _ _ _ _ _ h hS (lv_sub hl [2, 1, 0] rfl)
def wk_X7_mixHaltsAndLanes_70 (ks : List KY) (w : Nat) (a1 : Int64) (post : Int64 → VS → Prop) (B55 : Int64 → Int32 → VS → Prop) (B70 : Int64 → Int32 → VS → Prop) (x5 : Int32) (x3 : Int64) (x6 : Int32) (V : VS) : Prop := (((6 : Int32) ≤ x6 → (∀ y1 : Int32, y1 = x5 + 1 → B55 x3 y1 V)) ∧ (¬ ((6 : Int32) ≤ x6) → ((1, w, 0) ∈ ks ∧ wp_X7_laneAnswer ks w x5 x6 V (fun r4 V2 => (wp_X8_mix ks x3 r4.toInt64 V2 (fun r6 V5 => (∀ y7 : Int32, y7 = x6 + 1 → B70 r6 y7 V5)))))))
def wl_X7_mixHaltsAndLanes_70 (ks : List KY) (w : Nat) (a1 : Int64) (post : Int64 → VS → Prop) (B55 : Int64 → Int32 → VS → Prop) (x5 : Int32) (x3 : Int64) (x6 : Int32) (V : VS) : Prop := ∃ J : Nat → Int64 → Int32 → VS → Prop, (∃ n, J n x3 x6 V) ∧ ∀ (n : Nat) (x3 : Int64) (x6 : Int32) (V : VS), J n x3 x6 V → wk_X7_mixHaltsAndLanes_70 ks w a1 post B55 (fun x3 x6 V => ∃ n', n' < n ∧ J n' x3 x6 V) x5 x3 x6 V
def wk_X7_mixHaltsAndLanes_55 (ks : List KY) (w : Nat) (a1 : Int64) (post : Int64 → VS → Prop) (B55 : Int64 → Int32 → VS → Prop) (x3 : Int64) (x5 : Int32) (V : VS) : Prop := ((1, w, 0) ∈ ks ∧ (2, w, 1) ∈ ks ∧ ((V 2 w 1 2 0) ≤ x5 → (post x3 V)) ∧ (¬ ((V 2 w 1 2 0) ≤ x5) → (wl_X7_mixHaltsAndLanes_70 ks w a1 post B55 x5 x3 0 V)))
def wl_X7_mixHaltsAndLanes_55 (ks : List KY) (w : Nat) (a1 : Int64) (post : Int64 → VS → Prop) (x3 : Int64) (x5 : Int32) (V : VS) : Prop := ∃ J : Nat → Int64 → Int32 → VS → Prop, (∃ n, J n x3 x5 V) ∧ ∀ (n : Nat) (x3 : Int64) (x5 : Int32) (V : VS), J n x3 x5 V → wk_X7_mixHaltsAndLanes_55 ks w a1 post (fun x3 x5 V => ∃ n', n' < n ∧ J n' x3 x5 V) x3 x5 V
def wk_X7_mixHaltsAndLanes_20 (ks : List KY) (w : Nat) (a1 : Int64) (post : Int64 → VS → Prop) (B5 : Int64 → Int32 → VS → Prop) (B20 : Int64 → Int32 → VS → Prop) (x5 : Int32) (x3 : Int64) (x6 : Int32) (V : VS) : Prop := (((5 : Int32) ≤ x6 → (∀ y12 : Int32, y12 = x5 + 1 → B5 x3 y12 V)) ∧ (¬ ((5 : Int32) ≤ x6) → ((1, w, 0) ∈ ks ∧ wp_X7_haltAnswer ks w x5 x6 V (fun r15 V13 => (wp_X8_mix ks x3 r15.toInt64 V13 (fun r17 V16 => (∀ y18 : Int32, y18 = x6 + 1 → B20 r17 y18 V16)))))))
def wl_X7_mixHaltsAndLanes_20 (ks : List KY) (w : Nat) (a1 : Int64) (post : Int64 → VS → Prop) (B5 : Int64 → Int32 → VS → Prop) (x5 : Int32) (x3 : Int64) (x6 : Int32) (V : VS) : Prop := ∃ J : Nat → Int64 → Int32 → VS → Prop, (∃ n, J n x3 x6 V) ∧ ∀ (n : Nat) (x3 : Int64) (x6 : Int32) (V : VS), J n x3 x6 V → wk_X7_mixHaltsAndLanes_20 ks w a1 post B5 (fun x3 x6 V => ∃ n', n' < n ∧ J n' x3 x6 V) x5 x3 x6 V
def wk_X7_mixHaltsAndLanes_5 (ks : List KY) (w : Nat) (a1 : Int64) (post : Int64 → VS → Prop) (B5 : Int64 → Int32 → VS → Prop) (x3 : Int64) (x5 : Int32) (V : VS) : Prop := ((1, w, 0) ∈ ks ∧ (2, w, 0) ∈ ks ∧ ((V 2 w 0 2 0) ≤ x5 → (wl_X7_mixHaltsAndLanes_55 ks w a1 post x3 0 V)) ∧ (¬ ((V 2 w 0 2 0) ≤ x5) → (wl_X7_mixHaltsAndLanes_20 ks w a1 post B5 x5 x3 0 V)))
def wl_X7_mixHaltsAndLanes_5 (ks : List KY) (w : Nat) (a1 : Int64) (post : Int64 → VS → Prop) (x3 : Int64) (x5 : Int32) (V : VS) : Prop := ∃ J : Nat → Int64 → Int32 → VS → Prop, (∃ n, J n x3 x5 V) ∧ ∀ (n : Nat) (x3 : Int64) (x5 : Int32) (V : VS), J n x3 x5 V → wk_X7_mixHaltsAndLanes_5 ks w a1 post (fun x3 x5 V => ∃ n', n' < n ∧ J n' x3 x5 V) x3 x5 V
def wp_X7_mixHaltsAndLanes (ks : List KY) (w : Nat) (a1 : Int64) (V : VS) (post : Int64 → VS → Prop) : Prop := (wl_X7_mixHaltsAndLanes_5 ks w a1 post a1 0 V)
set_option maxHeartbeats 4000000 in
set_option maxRecDepth 100000 in
theorem c_X7_mixHaltsAndLanes (l : Launch) (G : GG) (ks : List KY) (ad : AD) (w : Nat) (a1 : Int64) (V : VS) (post : Int64 → VS → Prop) (h : wp_X7_mixHaltsAndLanes ks w a1 V post) (sz : Nat) : Met l yX7_mixHaltsAndLanes (ws_ yX7_mixHaltsAndLanes cX7_mixHaltsAndLanes 7 (some .long)) ({ frames := 5, cells := 0, slots := 0, locals := 111 }) (mPc [.ref (ad 1 w 0), .long a1] G ks ad V sz) (mQl post G ks ad sz) 0 0 (mA ks ad sz) := by
  refine g_met (own := RX7) (by decide) rfl (Nat.le_of_ble_eq_true rfl) ?_
  intro p e s m args below meth c ls hC hsz hr hlk hin hS ha hl
  have hl : lv_has ls 7 [(0, .ref (ad 1 w 0)), (1, .long a1)] := hl
  unfold wp_X7_mixHaltsAndLanes at h
  have kT55 : ∀ (x3 : Int64) (x5 : Int32) (V : VS) (H : Heap) (locs : List Loc) (ls : Array Slot), wl_X7_mixHaltsAndLanes_55 ks w a1 post x3 x5 V → ST G ks ad V (mA ks ad sz) s.heap H locs → lv_has ls 7 [(0, .ref (ad 1 w 0)), (3, .long x3), (5, .int x5)] → W p l e ({ frames := 5, cells := 0, slots := 0, locals := 111 } : Room) s m args below meth c H locs 0 0 (MQ below (mQl post G ks ad sz) args s 0 0 (mA ks ad sz)) (F0 m 55 ls []) := by
    intro x3 x5 V H locs ls h hS hl
    obtain ⟨J, ⟨n, hJ⟩, hb⟩ := h
    induction n using Nat.strongRecOn generalizing x3 x5 V H locs ls with
    | _ n ih =>
      have h := hb n x3 x5 V hJ
      obtain ⟨B55, eB⟩ : ∃ z : Int64 → Int32 → VS → Prop, z = (fun x3 x5 V => ∃ n', n' < n ∧ J n' x3 x5 V) := ⟨_, rfl⟩
      rw [← eB] at h
      have kB55 : ∀ (x3 : Int64) (x5 : Int32) (V : VS) (H : Heap) (locs : List Loc) (ls : Array Slot), B55 x3 x5 V → ST G ks ad V (mA ks ad sz) s.heap H locs → lv_has ls 7 [(0, .ref (ad 1 w 0)), (3, .long x3), (5, .int x5)] → W p l e ({ frames := 5, cells := 0, slots := 0, locals := 111 } : Room) s m args below meth c H locs 0 0 (MQ below (mQl post G ks ad sz) args s 0 0 (mA ks ad sz)) (F0 m 55 ls []) := by
        intro x3 x5 V H locs ls h hS hl
        rw [eB] at h
        obtain ⟨n', hn, hJ'⟩ := h
        exact ih n' hn _ _ _ _ _ _ hS hl hJ'
      clear ih hJ hb eB
      unfold wk_X7_mixHaltsAndLanes_55 at h
      have kT70 : ∀ (x5 : Int32) (x3 : Int64) (x6 : Int32) (V : VS) (H : Heap) (locs : List Loc) (ls : Array Slot), wl_X7_mixHaltsAndLanes_70 ks w a1 post B55 x5 x3 x6 V → ST G ks ad V (mA ks ad sz) s.heap H locs → lv_has ls 7 [(0, .ref (ad 1 w 0)), (3, .long x3), (5, .int x5), (6, .int x6)] → W p l e ({ frames := 5, cells := 0, slots := 0, locals := 111 } : Room) s m args below meth c H locs 0 0 (MQ below (mQl post G ks ad sz) args s 0 0 (mA ks ad sz)) (F0 m 70 ls []) := by
        intro x5 x3 x6 V H locs ls h hS hl
        obtain ⟨J, ⟨n, hJ⟩, hb⟩ := h
        induction n using Nat.strongRecOn generalizing x3 x6 V H locs ls with
        | _ n ih =>
          have h := hb n x3 x6 V hJ
          obtain ⟨B70, eB⟩ : ∃ z : Int64 → Int32 → VS → Prop, z = (fun x3 x6 V => ∃ n', n' < n ∧ J n' x3 x6 V) := ⟨_, rfl⟩
          rw [← eB] at h
          have kB70 : ∀ (x3 : Int64) (x6 : Int32) (V : VS) (H : Heap) (locs : List Loc) (ls : Array Slot), B70 x3 x6 V → ST G ks ad V (mA ks ad sz) s.heap H locs → lv_has ls 7 [(0, .ref (ad 1 w 0)), (3, .long x3), (5, .int x5), (6, .int x6)] → W p l e ({ frames := 5, cells := 0, slots := 0, locals := 111 } : Room) s m args below meth c H locs 0 0 (MQ below (mQl post G ks ad sz) args s 0 0 (mA ks ad sz)) (F0 m 70 ls []) := by
            intro x3 x6 V H locs ls h hS hl
            rw [eB] at h
            obtain ⟨n', hn, hJ'⟩ := h
            exact ih n' hn _ _ _ _ _ _ hS hl hJ'
          clear ih hJ hb eB
          unfold wk_X7_mixHaltsAndLanes_70 at h
          refine lv_iload hC.1 hC.2.1 dX7_mixHaltsAndLanes_70 (lv_at hl 3 rfl) ?_
          refine lv_bipush (v := 6) hC.1 hC.2.1 dX7_mixHaltsAndLanes_72 (by decide) ?_
          refine lv_icmp_ge (tgt := 97) hC.1 hC.2.1 dX7_mixHaltsAndLanes_74 (by decide) (fun c8 => ?_) (fun c8 => ?_)
          · have h := h.1 c8
            obtain ⟨y1, ey1⟩ : ∃ z : Int32, z = x5 + 1 := ⟨_, rfl⟩
            have h := h y1 ey1
            refine lv_iinc (v := y1) (lv' := [(5, .int y1), (0, .ref (ad 1 w 0)), (3, .long x3), (6, .int x6)]) hC.1 hC.2.1 dX7_mixHaltsAndLanes_97 hl (k := 2) rfl (by rw [ey1]; rfl) (by decide) rfl (fun ls hl => ?_)
            refine lv_goto (tgt := 55) hC.1 hC.2.1 dX7_mixHaltsAndLanes_100 (by decide) ?_
            exact kB55 _ _ _ _ _ _ h hS (lv_sub hl [1, 2, 0] rfl)
          · have h := h.2 c8
            refine lv_lload_n hC.1 hC.2.1 dX7_mixHaltsAndLanes_77 rfl (lv_at hl 1 rfl) ?_
            refine lv_aload_n hC.1 hC.2.1 dX7_mixHaltsAndLanes_78 rfl (lv_at hl 0 rfl) ?_
            refine lv_iload hC.1 hC.2.1 dX7_mixHaltsAndLanes_79 (lv_at hl 2 rfl) ?_
            refine lv_iload hC.1 hC.2.1 dX7_mixHaltsAndLanes_81 (lv_at hl 3 rfl) ?_
            obtain ⟨hk3, h⟩ := h
            refine g_calli0 hS (g_runV (n := 2) (rest := [.long x3]) (As := [.int x5, .int x6]) (C := RX7) (T := TX7) (N := 9) hC hS hk3 rfl rfl (c_X7_laneAnswer l G ks ad w x5 x6 V _ h _) (gI wq_276 wq_277 wq_278 wq_40 wq_279) rfl ⟨⟨by decide +kernel, by decide +kernel, by decide +kernel⟩, rfl, rfl, Nat.le_of_ble_eq_true rfl, Nat.le_of_ble_eq_true rfl⟩ rfl hl rfl (Nat.le_of_ble_eq_true rfl) dX7_mixHaltsAndLanes_83 ⟨Nat.le_of_ble_eq_true rfl, Nat.le_of_ble_eq_true rfl⟩) (fun r4 V2 H locs h hS => ?_)
            refine lv_i2l hC.1 hC.2.1 dX7_mixHaltsAndLanes_86 rfl ?_
            refine g_calll0 hS (g_runSN (n := 2) (rest := []) (As := [.long x3, .long r4.toInt64]) hC hS (c_X8_mix l G ks ad x3 r4.toInt64 V2 _ h _) wq_238 wq_239 wq_39 wq_240 ⟨⟨by decide +kernel, by decide +kernel, by decide +kernel⟩, rfl, rfl, Nat.le_of_ble_eq_true rfl, Nat.le_of_ble_eq_true rfl⟩ rfl hl rfl (Nat.le_of_ble_eq_true rfl) dX7_mixHaltsAndLanes_87 ⟨Nat.le_of_ble_eq_true rfl, Nat.le_of_ble_eq_true rfl⟩) (fun r6 V5 H locs h hS => ?_)
            refine lv_lstore_n (lv' := [(3, .long r6), (0, .ref (ad 1 w 0)), (5, .int x5), (6, .int x6)]) hC.1 hC.2.1 dX7_mixHaltsAndLanes_90 rfl hl (by decide) rfl (fun ls hl => ?_)
            obtain ⟨y7, ey7⟩ : ∃ z : Int32, z = x6 + 1 := ⟨_, rfl⟩
            have h := h y7 ey7
            refine lv_iinc (v := y7) (lv' := [(6, .int y7), (3, .long r6), (0, .ref (ad 1 w 0)), (5, .int x5)]) hC.1 hC.2.1 dX7_mixHaltsAndLanes_91 hl (k := 3) rfl (by rw [ey7]; rfl) (by decide) rfl (fun ls hl => ?_)
            refine lv_goto (tgt := 70) hC.1 hC.2.1 dX7_mixHaltsAndLanes_94 (by decide) ?_
            exact kB70 _ _ _ _ _ _ h hS (lv_sub hl [2, 1, 3, 0] rfl)
      refine lv_iload hC.1 hC.2.1 dX7_mixHaltsAndLanes_55 (lv_at hl 2 rfl) ?_
      refine lv_aload_n hC.1 hC.2.1 dX7_mixHaltsAndLanes_57 rfl (lv_at hl 0 rfl) ?_
      obtain ⟨hk9, h⟩ := h
      refine gf_1_1 hC hS hk9 wq_136 dX7_mixHaltsAndLanes_58 ?_
      obtain ⟨hk10, h⟩ := h
      refine g_lsize hC hS hk10 wq_183 hl ⟨Nat.le_of_ble_eq_true rfl, Nat.le_of_ble_eq_true rfl, Nat.zero_le _⟩ (Nat.le_of_ble_eq_true rfl) dX7_mixHaltsAndLanes_61 ⟨Nat.le_of_ble_eq_true rfl, Nat.le_of_ble_eq_true rfl⟩ (fun H locs hS => ?_)
      refine lv_icmp_ge (tgt := 103) hC.1 hC.2.1 dX7_mixHaltsAndLanes_64 (by decide) (fun c11 => ?_) (fun c11 => ?_)
      · have h := h.1 c11
        refine lv_lload_n hC.1 hC.2.1 dX7_mixHaltsAndLanes_103 rfl (lv_at hl 1 rfl) ?_
        exact g_lret hC hr hlk hS h dX7_mixHaltsAndLanes_104
      · have h := h.2 c11
        refine lv_iconst (v := 0) hC.1 hC.2.1 dX7_mixHaltsAndLanes_67 (by decide) ?_
        refine lv_istore (lv' := [(6, .int 0), (0, .ref (ad 1 w 0)), (3, .long x3), (5, .int x5)]) hC.1 hC.2.1 dX7_mixHaltsAndLanes_68 hl (by decide) rfl (fun ls hl => ?_)
        exact kT70 _ _ _ _ _ _ _ h hS (lv_sub hl [1, 2, 3, 0] rfl)
  have kT5 : ∀ (x3 : Int64) (x5 : Int32) (V : VS) (H : Heap) (locs : List Loc) (ls : Array Slot), wl_X7_mixHaltsAndLanes_5 ks w a1 post x3 x5 V → ST G ks ad V (mA ks ad sz) s.heap H locs → lv_has ls 7 [(0, .ref (ad 1 w 0)), (3, .long x3), (5, .int x5)] → W p l e ({ frames := 5, cells := 0, slots := 0, locals := 111 } : Room) s m args below meth c H locs 0 0 (MQ below (mQl post G ks ad sz) args s 0 0 (mA ks ad sz)) (F0 m 5 ls []) := by
    intro x3 x5 V H locs ls h hS hl
    obtain ⟨J, ⟨n, hJ⟩, hb⟩ := h
    induction n using Nat.strongRecOn generalizing x3 x5 V H locs ls with
    | _ n ih =>
      have h := hb n x3 x5 V hJ
      obtain ⟨B5, eB⟩ : ∃ z : Int64 → Int32 → VS → Prop, z = (fun x3 x5 V => ∃ n', n' < n ∧ J n' x3 x5 V) := ⟨_, rfl⟩
      rw [← eB] at h
      have kB5 : ∀ (x3 : Int64) (x5 : Int32) (V : VS) (H : Heap) (locs : List Loc) (ls : Array Slot), B5 x3 x5 V → ST G ks ad V (mA ks ad sz) s.heap H locs → lv_has ls 7 [(0, .ref (ad 1 w 0)), (3, .long x3), (5, .int x5)] → W p l e ({ frames := 5, cells := 0, slots := 0, locals := 111 } : Room) s m args below meth c H locs 0 0 (MQ below (mQl post G ks ad sz) args s 0 0 (mA ks ad sz)) (F0 m 5 ls []) := by
        intro x3 x5 V H locs ls h hS hl
        rw [eB] at h
        obtain ⟨n', hn, hJ'⟩ := h
        exact ih n' hn _ _ _ _ _ _ hS hl hJ'
      clear ih hJ hb eB
      unfold wk_X7_mixHaltsAndLanes_5 at h
      have kT20 : ∀ (x5 : Int32) (x3 : Int64) (x6 : Int32) (V : VS) (H : Heap) (locs : List Loc) (ls : Array Slot), wl_X7_mixHaltsAndLanes_20 ks w a1 post B5 x5 x3 x6 V → ST G ks ad V (mA ks ad sz) s.heap H locs → lv_has ls 7 [(0, .ref (ad 1 w 0)), (3, .long x3), (5, .int x5), (6, .int x6)] → W p l e ({ frames := 5, cells := 0, slots := 0, locals := 111 } : Room) s m args below meth c H locs 0 0 (MQ below (mQl post G ks ad sz) args s 0 0 (mA ks ad sz)) (F0 m 20 ls []) := by
        intro x5 x3 x6 V H locs ls h hS hl
        obtain ⟨J, ⟨n, hJ⟩, hb⟩ := h
        induction n using Nat.strongRecOn generalizing x3 x6 V H locs ls with
        | _ n ih =>
          have h := hb n x3 x6 V hJ
          obtain ⟨B20, eB⟩ : ∃ z : Int64 → Int32 → VS → Prop, z = (fun x3 x6 V => ∃ n', n' < n ∧ J n' x3 x6 V) := ⟨_, rfl⟩
          rw [← eB] at h
          have kB20 : ∀ (x3 : Int64) (x6 : Int32) (V : VS) (H : Heap) (locs : List Loc) (ls : Array Slot), B20 x3 x6 V → ST G ks ad V (mA ks ad sz) s.heap H locs → lv_has ls 7 [(0, .ref (ad 1 w 0)), (3, .long x3), (5, .int x5), (6, .int x6)] → W p l e ({ frames := 5, cells := 0, slots := 0, locals := 111 } : Room) s m args below meth c H locs 0 0 (MQ below (mQl post G ks ad sz) args s 0 0 (mA ks ad sz)) (F0 m 20 ls []) := by
            intro x3 x6 V H locs ls h hS hl
            rw [eB] at h
            obtain ⟨n', hn, hJ'⟩ := h
            exact ih n' hn _ _ _ _ _ _ hS hl hJ'
          clear ih hJ hb eB
          unfold wk_X7_mixHaltsAndLanes_20 at h
          refine lv_iload hC.1 hC.2.1 dX7_mixHaltsAndLanes_20 (lv_at hl 3 rfl) ?_
          refine lv_iconst (v := 5) hC.1 hC.2.1 dX7_mixHaltsAndLanes_22 (by decide) ?_
          refine lv_icmp_ge (tgt := 46) hC.1 hC.2.1 dX7_mixHaltsAndLanes_23 (by decide) (fun c19 => ?_) (fun c19 => ?_)
          · have h := h.1 c19
            obtain ⟨y12, ey12⟩ : ∃ z : Int32, z = x5 + 1 := ⟨_, rfl⟩
            have h := h y12 ey12
            refine lv_iinc (v := y12) (lv' := [(5, .int y12), (0, .ref (ad 1 w 0)), (3, .long x3), (6, .int x6)]) hC.1 hC.2.1 dX7_mixHaltsAndLanes_46 hl (k := 2) rfl (by rw [ey12]; rfl) (by decide) rfl (fun ls hl => ?_)
            refine lv_goto (tgt := 5) hC.1 hC.2.1 dX7_mixHaltsAndLanes_49 (by decide) ?_
            exact kB5 _ _ _ _ _ _ h hS (lv_sub hl [1, 2, 0] rfl)
          · have h := h.2 c19
            refine lv_lload_n hC.1 hC.2.1 dX7_mixHaltsAndLanes_26 rfl (lv_at hl 1 rfl) ?_
            refine lv_aload_n hC.1 hC.2.1 dX7_mixHaltsAndLanes_27 rfl (lv_at hl 0 rfl) ?_
            refine lv_iload hC.1 hC.2.1 dX7_mixHaltsAndLanes_28 (lv_at hl 2 rfl) ?_
            refine lv_iload hC.1 hC.2.1 dX7_mixHaltsAndLanes_30 (lv_at hl 3 rfl) ?_
            obtain ⟨hk14, h⟩ := h
            refine g_calli0 hS (g_runV (n := 2) (rest := [.long x3]) (As := [.int x5, .int x6]) (C := RX7) (T := TX7) (N := 9) hC hS hk14 rfl rfl (c_X7_haltAnswer l G ks ad w x5 x6 V _ h _) (gI wq_258 wq_259 wq_260 wq_40 wq_261) rfl ⟨⟨by decide +kernel, by decide +kernel, by decide +kernel⟩, rfl, rfl, Nat.le_of_ble_eq_true rfl, Nat.le_of_ble_eq_true rfl⟩ rfl hl rfl (Nat.le_of_ble_eq_true rfl) dX7_mixHaltsAndLanes_32 ⟨Nat.le_of_ble_eq_true rfl, Nat.le_of_ble_eq_true rfl⟩) (fun r15 V13 H locs h hS => ?_)
            refine lv_i2l hC.1 hC.2.1 dX7_mixHaltsAndLanes_35 rfl ?_
            refine g_calll0 hS (g_runSN (n := 2) (rest := []) (As := [.long x3, .long r15.toInt64]) hC hS (c_X8_mix l G ks ad x3 r15.toInt64 V13 _ h _) wq_238 wq_239 wq_39 wq_240 ⟨⟨by decide +kernel, by decide +kernel, by decide +kernel⟩, rfl, rfl, Nat.le_of_ble_eq_true rfl, Nat.le_of_ble_eq_true rfl⟩ rfl hl rfl (Nat.le_of_ble_eq_true rfl) dX7_mixHaltsAndLanes_36 ⟨Nat.le_of_ble_eq_true rfl, Nat.le_of_ble_eq_true rfl⟩) (fun r17 V16 H locs h hS => ?_)
            refine lv_lstore_n (lv' := [(3, .long r17), (0, .ref (ad 1 w 0)), (5, .int x5), (6, .int x6)]) hC.1 hC.2.1 dX7_mixHaltsAndLanes_39 rfl hl (by decide) rfl (fun ls hl => ?_)
            obtain ⟨y18, ey18⟩ : ∃ z : Int32, z = x6 + 1 := ⟨_, rfl⟩
            have h := h y18 ey18
            refine lv_iinc (v := y18) (lv' := [(6, .int y18), (3, .long r17), (0, .ref (ad 1 w 0)), (5, .int x5)]) hC.1 hC.2.1 dX7_mixHaltsAndLanes_40 hl (k := 3) rfl (by rw [ey18]; rfl) (by decide) rfl (fun ls hl => ?_)
            refine lv_goto (tgt := 20) hC.1 hC.2.1 dX7_mixHaltsAndLanes_43 (by decide) ?_
            exact kB20 _ _ _ _ _ _ h hS (lv_sub hl [2, 1, 3, 0] rfl)
      refine lv_iload hC.1 hC.2.1 dX7_mixHaltsAndLanes_5 (lv_at hl 2 rfl) ?_
      refine lv_aload_n hC.1 hC.2.1 dX7_mixHaltsAndLanes_7 rfl (lv_at hl 0 rfl) ?_
      obtain ⟨hk20, h⟩ := h
      refine gf_1_0 hC hS hk20 wq_134 dX7_mixHaltsAndLanes_8 ?_
      obtain ⟨hk21, h⟩ := h
      refine g_lsize hC hS hk21 wq_183 hl ⟨Nat.le_of_ble_eq_true rfl, Nat.le_of_ble_eq_true rfl, Nat.zero_le _⟩ (Nat.le_of_ble_eq_true rfl) dX7_mixHaltsAndLanes_11 ⟨Nat.le_of_ble_eq_true rfl, Nat.le_of_ble_eq_true rfl⟩ (fun H locs hS => ?_)
      refine lv_icmp_ge (tgt := 52) hC.1 hC.2.1 dX7_mixHaltsAndLanes_14 (by decide) (fun c22 => ?_) (fun c22 => ?_)
      · have h := h.1 c22
        refine lv_iconst (v := 0) hC.1 hC.2.1 dX7_mixHaltsAndLanes_52 (by decide) ?_
        refine lv_istore (lv' := [(5, .int 0), (0, .ref (ad 1 w 0)), (3, .long x3)]) hC.1 hC.2.1 dX7_mixHaltsAndLanes_53 hl (by decide) rfl (fun ls hl => ?_)
        exact kT55 _ _ _ _ _ _ h hS (lv_sub hl [1, 2, 0] rfl)
      · have h := h.2 c22
        refine lv_iconst (v := 0) hC.1 hC.2.1 dX7_mixHaltsAndLanes_17 (by decide) ?_
        refine lv_istore (lv' := [(6, .int 0), (0, .ref (ad 1 w 0)), (3, .long x3), (5, .int x5)]) hC.1 hC.2.1 dX7_mixHaltsAndLanes_18 hl (by decide) rfl (fun ls hl => ?_)
        exact kT20 _ _ _ _ _ _ _ h hS (lv_sub hl [1, 2, 3, 0] rfl)
  refine lv_lload_n hC.1 hC.2.1 dX7_mixHaltsAndLanes_0 rfl (lv_at hl 1 rfl) ?_
  refine lv_lstore_n (lv' := [(3, .long a1), (0, .ref (ad 1 w 0)), (1, .long a1)]) hC.1 hC.2.1 dX7_mixHaltsAndLanes_1 rfl hl (by decide) rfl (fun ls hl => ?_)
  refine lv_iconst (v := 0) hC.1 hC.2.1 dX7_mixHaltsAndLanes_2 (by decide) ?_
  refine lv_istore (lv' := [(5, .int 0), (3, .long a1), (0, .ref (ad 1 w 0)), (1, .long a1)]) hC.1 hC.2.1 dX7_mixHaltsAndLanes_3 hl (by decide) rfl (fun ls hl => ?_)
  exact kT5 _ _ _ _ _ _ h hS (lv_sub hl [2, 1, 0] rfl)
def wk_X7_mixBooksAndReaders_120 (ks : List KY) (w : Nat) (a1 : Int64) (post : Int64 → VS → Prop) (B105 : Int64 → Int32 → VS → Prop) (B120 : Int64 → Int32 → VS → Prop) (x5 : Int32) (x3 : Int64) (x6 : Int32) (V : VS) : Prop := (((8 : Int32) ≤ x6 → (∀ y1 : Int32, y1 = x5 + 1 → B105 x3 y1 V)) ∧ (¬ ((8 : Int32) ≤ x6) → ((1, w, 0) ∈ ks ∧ wp_X7_readerAnswer ks w x5 x6 V (fun r4 V2 => (wp_X8_mix ks x3 r4.toInt64 V2 (fun r6 V5 => (∀ y7 : Int32, y7 = x6 + 1 → B120 r6 y7 V5)))))))
def wl_X7_mixBooksAndReaders_120 (ks : List KY) (w : Nat) (a1 : Int64) (post : Int64 → VS → Prop) (B105 : Int64 → Int32 → VS → Prop) (x5 : Int32) (x3 : Int64) (x6 : Int32) (V : VS) : Prop := ∃ J : Nat → Int64 → Int32 → VS → Prop, (∃ n, J n x3 x6 V) ∧ ∀ (n : Nat) (x3 : Int64) (x6 : Int32) (V : VS), J n x3 x6 V → wk_X7_mixBooksAndReaders_120 ks w a1 post B105 (fun x3 x6 V => ∃ n', n' < n ∧ J n' x3 x6 V) x5 x3 x6 V
def wk_X7_mixBooksAndReaders_105 (ks : List KY) (w : Nat) (a1 : Int64) (post : Int64 → VS → Prop) (B105 : Int64 → Int32 → VS → Prop) (x3 : Int64) (x5 : Int32) (V : VS) : Prop := ((1, w, 0) ∈ ks ∧ (2, w, 3) ∈ ks ∧ ((V 2 w 3 2 0) ≤ x5 → (post x3 V)) ∧ (¬ ((V 2 w 3 2 0) ≤ x5) → (wl_X7_mixBooksAndReaders_120 ks w a1 post B105 x5 x3 0 V)))
def wl_X7_mixBooksAndReaders_105 (ks : List KY) (w : Nat) (a1 : Int64) (post : Int64 → VS → Prop) (x3 : Int64) (x5 : Int32) (V : VS) : Prop := ∃ J : Nat → Int64 → Int32 → VS → Prop, (∃ n, J n x3 x5 V) ∧ ∀ (n : Nat) (x3 : Int64) (x5 : Int32) (V : VS), J n x3 x5 V → wk_X7_mixBooksAndReaders_105 ks w a1 post (fun x3 x5 V => ∃ n', n' < n ∧ J n' x3 x5 V) x3 x5 V
def wk_X7_mixBooksAndReaders_67 (ks : List KY) (w : Nat) (a1 : Int64) (post : Int64 → VS → Prop) (B5 : Int64 → Int32 → VS → Prop) (B67 : Int64 → Int32 → VS → Prop) (x5 : Int32) (x6i : Nat) (x3 : Int64) (x7 : Int32) (V : VS) : Prop := ((8, w, x6i) ∈ ks ∧ wp_X3_size ks w x6i V (fun r14 V12 => ((r14 ≤ x7 → (∀ y15 : Int32, y15 = x5 + 1 → B5 x3 y15 V12)) ∧ (¬ (r14 ≤ x7) → (wp_X3_readerAt ks w x6i x7 V12 (fun r17 V16 => (wp_X8_mix ks x3 r17.toInt64 V16 (fun r19 V18 => (∀ y20 : Int32, y20 = x7 + 1 → B67 r19 y20 V18)))))))))
def wl_X7_mixBooksAndReaders_67 (ks : List KY) (w : Nat) (a1 : Int64) (post : Int64 → VS → Prop) (B5 : Int64 → Int32 → VS → Prop) (x5 : Int32) (x6i : Nat) (x3 : Int64) (x7 : Int32) (V : VS) : Prop := ∃ J : Nat → Int64 → Int32 → VS → Prop, (∃ n, J n x3 x7 V) ∧ ∀ (n : Nat) (x3 : Int64) (x7 : Int32) (V : VS), J n x3 x7 V → wk_X7_mixBooksAndReaders_67 ks w a1 post B5 (fun x3 x7 V => ∃ n', n' < n ∧ J n' x3 x7 V) x5 x6i x3 x7 V
def wk_X7_mixBooksAndReaders_20 (ks : List KY) (w : Nat) (a1 : Int64) (post : Int64 → VS → Prop) (B5 : Int64 → Int32 → VS → Prop) (B20 : Int64 → Int32 → VS → Prop) (x5 : Int32) (x3 : Int64) (x6 : Int32) (V : VS) : Prop := (((7 : Int32) ≤ x6 → ((1, w, 0) ∈ ks ∧ (2, w, 2) ∈ ks ∧ (3, w, 2) ∈ ks ∧ lsz V w 2 ≤ 33 ∧ (¬ x5 < 0 ∧ x5 < V 2 w 2 2 0) ∧ ∀ j27 : Nat, j27 = x5.toNatClampNeg → (6, w, j27) ∈ ks ∧ wl_X7_mixBooksAndReaders_67 ks w a1 post B5 x5 j27 x3 0 V)) ∧ (¬ ((7 : Int32) ≤ x6) → ((1, w, 0) ∈ ks ∧ wp_X7_bookAnswer ks w x5 x6 V (fun r31 V29 => (wp_X8_mix ks x3 r31.toInt64 V29 (fun r33 V32 => (∀ y34 : Int32, y34 = x6 + 1 → B20 r33 y34 V32)))))))
def wl_X7_mixBooksAndReaders_20 (ks : List KY) (w : Nat) (a1 : Int64) (post : Int64 → VS → Prop) (B5 : Int64 → Int32 → VS → Prop) (x5 : Int32) (x3 : Int64) (x6 : Int32) (V : VS) : Prop := ∃ J : Nat → Int64 → Int32 → VS → Prop, (∃ n, J n x3 x6 V) ∧ ∀ (n : Nat) (x3 : Int64) (x6 : Int32) (V : VS), J n x3 x6 V → wk_X7_mixBooksAndReaders_20 ks w a1 post B5 (fun x3 x6 V => ∃ n', n' < n ∧ J n' x3 x6 V) x5 x3 x6 V
def wk_X7_mixBooksAndReaders_5 (ks : List KY) (w : Nat) (a1 : Int64) (post : Int64 → VS → Prop) (B5 : Int64 → Int32 → VS → Prop) (x3 : Int64) (x5 : Int32) (V : VS) : Prop := ((1, w, 0) ∈ ks ∧ (2, w, 2) ∈ ks ∧ ((V 2 w 2 2 0) ≤ x5 → (wl_X7_mixBooksAndReaders_105 ks w a1 post x3 0 V)) ∧ (¬ ((V 2 w 2 2 0) ≤ x5) → (wl_X7_mixBooksAndReaders_20 ks w a1 post B5 x5 x3 0 V)))
def wl_X7_mixBooksAndReaders_5 (ks : List KY) (w : Nat) (a1 : Int64) (post : Int64 → VS → Prop) (x3 : Int64) (x5 : Int32) (V : VS) : Prop := ∃ J : Nat → Int64 → Int32 → VS → Prop, (∃ n, J n x3 x5 V) ∧ ∀ (n : Nat) (x3 : Int64) (x5 : Int32) (V : VS), J n x3 x5 V → wk_X7_mixBooksAndReaders_5 ks w a1 post (fun x3 x5 V => ∃ n', n' < n ∧ J n' x3 x5 V) x3 x5 V
def wp_X7_mixBooksAndReaders (ks : List KY) (w : Nat) (a1 : Int64) (V : VS) (post : Int64 → VS → Prop) : Prop := (wl_X7_mixBooksAndReaders_5 ks w a1 post a1 0 V)
set_option maxHeartbeats 4000000 in
set_option maxRecDepth 100000 in
theorem c_X7_mixBooksAndReaders (l : Launch) (G : GG) (ks : List KY) (ad : AD) (w : Nat) (a1 : Int64) (V : VS) (post : Int64 → VS → Prop) (h : wp_X7_mixBooksAndReaders ks w a1 V post) (sz : Nat) : Met l yX7_mixBooksAndReaders (ws_ yX7_mixBooksAndReaders cX7_mixBooksAndReaders 8 (some .long)) ({ frames := 5, cells := 0, slots := 0, locals := 110 }) (mPc [.ref (ad 1 w 0), .long a1] G ks ad V sz) (mQl post G ks ad sz) 0 0 (mA ks ad sz) := by
  refine g_met (own := RX7) (by decide) rfl (Nat.le_of_ble_eq_true rfl) ?_
  intro p e s m args below meth c ls hC hsz hr hlk hin hS ha hl
  have hl : lv_has ls 8 [(0, .ref (ad 1 w 0)), (1, .long a1)] := hl
  unfold wp_X7_mixBooksAndReaders at h
  have kT105 : ∀ (x3 : Int64) (x5 : Int32) (V : VS) (H : Heap) (locs : List Loc) (ls : Array Slot), wl_X7_mixBooksAndReaders_105 ks w a1 post x3 x5 V → ST G ks ad V (mA ks ad sz) s.heap H locs → lv_has ls 8 [(0, .ref (ad 1 w 0)), (3, .long x3), (5, .int x5)] → W p l e ({ frames := 5, cells := 0, slots := 0, locals := 110 } : Room) s m args below meth c H locs 0 0 (MQ below (mQl post G ks ad sz) args s 0 0 (mA ks ad sz)) (F0 m 105 ls []) := by
    intro x3 x5 V H locs ls h hS hl
    obtain ⟨J, ⟨n, hJ⟩, hb⟩ := h
    induction n using Nat.strongRecOn generalizing x3 x5 V H locs ls with
    | _ n ih =>
      have h := hb n x3 x5 V hJ
      obtain ⟨B105, eB⟩ : ∃ z : Int64 → Int32 → VS → Prop, z = (fun x3 x5 V => ∃ n', n' < n ∧ J n' x3 x5 V) := ⟨_, rfl⟩
      rw [← eB] at h
      have kB105 : ∀ (x3 : Int64) (x5 : Int32) (V : VS) (H : Heap) (locs : List Loc) (ls : Array Slot), B105 x3 x5 V → ST G ks ad V (mA ks ad sz) s.heap H locs → lv_has ls 8 [(0, .ref (ad 1 w 0)), (3, .long x3), (5, .int x5)] → W p l e ({ frames := 5, cells := 0, slots := 0, locals := 110 } : Room) s m args below meth c H locs 0 0 (MQ below (mQl post G ks ad sz) args s 0 0 (mA ks ad sz)) (F0 m 105 ls []) := by
        intro x3 x5 V H locs ls h hS hl
        rw [eB] at h
        obtain ⟨n', hn, hJ'⟩ := h
        exact ih n' hn _ _ _ _ _ _ hS hl hJ'
      clear ih hJ hb eB
      unfold wk_X7_mixBooksAndReaders_105 at h
      have kT120 : ∀ (x5 : Int32) (x3 : Int64) (x6 : Int32) (V : VS) (H : Heap) (locs : List Loc) (ls : Array Slot), wl_X7_mixBooksAndReaders_120 ks w a1 post B105 x5 x3 x6 V → ST G ks ad V (mA ks ad sz) s.heap H locs → lv_has ls 8 [(0, .ref (ad 1 w 0)), (3, .long x3), (5, .int x5), (6, .int x6)] → W p l e ({ frames := 5, cells := 0, slots := 0, locals := 110 } : Room) s m args below meth c H locs 0 0 (MQ below (mQl post G ks ad sz) args s 0 0 (mA ks ad sz)) (F0 m 120 ls []) := by
        intro x5 x3 x6 V H locs ls h hS hl
        obtain ⟨J, ⟨n, hJ⟩, hb⟩ := h
        induction n using Nat.strongRecOn generalizing x3 x6 V H locs ls with
        | _ n ih =>
          have h := hb n x3 x6 V hJ
          obtain ⟨B120, eB⟩ : ∃ z : Int64 → Int32 → VS → Prop, z = (fun x3 x6 V => ∃ n', n' < n ∧ J n' x3 x6 V) := ⟨_, rfl⟩
          rw [← eB] at h
          have kB120 : ∀ (x3 : Int64) (x6 : Int32) (V : VS) (H : Heap) (locs : List Loc) (ls : Array Slot), B120 x3 x6 V → ST G ks ad V (mA ks ad sz) s.heap H locs → lv_has ls 8 [(0, .ref (ad 1 w 0)), (3, .long x3), (5, .int x5), (6, .int x6)] → W p l e ({ frames := 5, cells := 0, slots := 0, locals := 110 } : Room) s m args below meth c H locs 0 0 (MQ below (mQl post G ks ad sz) args s 0 0 (mA ks ad sz)) (F0 m 120 ls []) := by
            intro x3 x6 V H locs ls h hS hl
            rw [eB] at h
            obtain ⟨n', hn, hJ'⟩ := h
            exact ih n' hn _ _ _ _ _ _ hS hl hJ'
          clear ih hJ hb eB
          unfold wk_X7_mixBooksAndReaders_120 at h
          refine lv_iload hC.1 hC.2.1 dX7_mixBooksAndReaders_120 (lv_at hl 3 rfl) ?_
          refine lv_bipush (v := 8) hC.1 hC.2.1 dX7_mixBooksAndReaders_122 (by decide) ?_
          refine lv_icmp_ge (tgt := 147) hC.1 hC.2.1 dX7_mixBooksAndReaders_124 (by decide) (fun c8 => ?_) (fun c8 => ?_)
          · have h := h.1 c8
            obtain ⟨y1, ey1⟩ : ∃ z : Int32, z = x5 + 1 := ⟨_, rfl⟩
            have h := h y1 ey1
            refine lv_iinc (v := y1) (lv' := [(5, .int y1), (0, .ref (ad 1 w 0)), (3, .long x3), (6, .int x6)]) hC.1 hC.2.1 dX7_mixBooksAndReaders_147 hl (k := 2) rfl (by rw [ey1]; rfl) (by decide) rfl (fun ls hl => ?_)
            refine lv_goto (tgt := 105) hC.1 hC.2.1 dX7_mixBooksAndReaders_150 (by decide) ?_
            exact kB105 _ _ _ _ _ _ h hS (lv_sub hl [1, 2, 0] rfl)
          · have h := h.2 c8
            refine lv_lload_n hC.1 hC.2.1 dX7_mixBooksAndReaders_127 rfl (lv_at hl 1 rfl) ?_
            refine lv_aload_n hC.1 hC.2.1 dX7_mixBooksAndReaders_128 rfl (lv_at hl 0 rfl) ?_
            refine lv_iload hC.1 hC.2.1 dX7_mixBooksAndReaders_129 (lv_at hl 2 rfl) ?_
            refine lv_iload hC.1 hC.2.1 dX7_mixBooksAndReaders_131 (lv_at hl 3 rfl) ?_
            obtain ⟨hk3, h⟩ := h
            refine g_calli0 hS (g_runV (n := 2) (rest := [.long x3]) (As := [.int x5, .int x6]) (C := RX7) (T := TX7) (N := 9) hC hS hk3 rfl rfl (c_X7_readerAnswer l G ks ad w x5 x6 V _ h _) (gI wq_312 wq_313 wq_314 wq_40 wq_315) rfl ⟨⟨by decide +kernel, by decide +kernel, by decide +kernel⟩, rfl, rfl, Nat.le_of_ble_eq_true rfl, Nat.le_of_ble_eq_true rfl⟩ rfl hl rfl (Nat.le_of_ble_eq_true rfl) dX7_mixBooksAndReaders_133 ⟨Nat.le_of_ble_eq_true rfl, Nat.le_of_ble_eq_true rfl⟩) (fun r4 V2 H locs h hS => ?_)
            refine lv_i2l hC.1 hC.2.1 dX7_mixBooksAndReaders_136 rfl ?_
            refine g_calll0 hS (g_runSN (n := 2) (rest := []) (As := [.long x3, .long r4.toInt64]) hC hS (c_X8_mix l G ks ad x3 r4.toInt64 V2 _ h _) wq_238 wq_239 wq_39 wq_240 ⟨⟨by decide +kernel, by decide +kernel, by decide +kernel⟩, rfl, rfl, Nat.le_of_ble_eq_true rfl, Nat.le_of_ble_eq_true rfl⟩ rfl hl rfl (Nat.le_of_ble_eq_true rfl) dX7_mixBooksAndReaders_137 ⟨Nat.le_of_ble_eq_true rfl, Nat.le_of_ble_eq_true rfl⟩) (fun r6 V5 H locs h hS => ?_)
            refine lv_lstore_n (lv' := [(3, .long r6), (0, .ref (ad 1 w 0)), (5, .int x5), (6, .int x6)]) hC.1 hC.2.1 dX7_mixBooksAndReaders_140 rfl hl (by decide) rfl (fun ls hl => ?_)
            obtain ⟨y7, ey7⟩ : ∃ z : Int32, z = x6 + 1 := ⟨_, rfl⟩
            have h := h y7 ey7
            refine lv_iinc (v := y7) (lv' := [(6, .int y7), (3, .long r6), (0, .ref (ad 1 w 0)), (5, .int x5)]) hC.1 hC.2.1 dX7_mixBooksAndReaders_141 hl (k := 3) rfl (by rw [ey7]; rfl) (by decide) rfl (fun ls hl => ?_)
            refine lv_goto (tgt := 120) hC.1 hC.2.1 dX7_mixBooksAndReaders_144 (by decide) ?_
            exact kB120 _ _ _ _ _ _ h hS (lv_sub hl [2, 1, 3, 0] rfl)
      refine lv_iload hC.1 hC.2.1 dX7_mixBooksAndReaders_105 (lv_at hl 2 rfl) ?_
      refine lv_aload_n hC.1 hC.2.1 dX7_mixBooksAndReaders_107 rfl (lv_at hl 0 rfl) ?_
      obtain ⟨hk9, h⟩ := h
      refine gf_1_3 hC hS hk9 wq_140 dX7_mixBooksAndReaders_108 ?_
      obtain ⟨hk10, h⟩ := h
      refine g_lsize hC hS hk10 wq_183 hl ⟨Nat.le_of_ble_eq_true rfl, Nat.le_of_ble_eq_true rfl, Nat.zero_le _⟩ (Nat.le_of_ble_eq_true rfl) dX7_mixBooksAndReaders_111 ⟨Nat.le_of_ble_eq_true rfl, Nat.le_of_ble_eq_true rfl⟩ (fun H locs hS => ?_)
      refine lv_icmp_ge (tgt := 153) hC.1 hC.2.1 dX7_mixBooksAndReaders_114 (by decide) (fun c11 => ?_) (fun c11 => ?_)
      · have h := h.1 c11
        refine lv_lload_n hC.1 hC.2.1 dX7_mixBooksAndReaders_153 rfl (lv_at hl 1 rfl) ?_
        exact g_lret hC hr hlk hS h dX7_mixBooksAndReaders_154
      · have h := h.2 c11
        refine lv_iconst (v := 0) hC.1 hC.2.1 dX7_mixBooksAndReaders_117 (by decide) ?_
        refine lv_istore (lv' := [(6, .int 0), (0, .ref (ad 1 w 0)), (3, .long x3), (5, .int x5)]) hC.1 hC.2.1 dX7_mixBooksAndReaders_118 hl (by decide) rfl (fun ls hl => ?_)
        exact kT120 _ _ _ _ _ _ _ h hS (lv_sub hl [1, 2, 3, 0] rfl)
  have kT5 : ∀ (x3 : Int64) (x5 : Int32) (V : VS) (H : Heap) (locs : List Loc) (ls : Array Slot), wl_X7_mixBooksAndReaders_5 ks w a1 post x3 x5 V → ST G ks ad V (mA ks ad sz) s.heap H locs → lv_has ls 8 [(0, .ref (ad 1 w 0)), (3, .long x3), (5, .int x5)] → W p l e ({ frames := 5, cells := 0, slots := 0, locals := 110 } : Room) s m args below meth c H locs 0 0 (MQ below (mQl post G ks ad sz) args s 0 0 (mA ks ad sz)) (F0 m 5 ls []) := by
    intro x3 x5 V H locs ls h hS hl
    obtain ⟨J, ⟨n, hJ⟩, hb⟩ := h
    induction n using Nat.strongRecOn generalizing x3 x5 V H locs ls with
    | _ n ih =>
      have h := hb n x3 x5 V hJ
      obtain ⟨B5, eB⟩ : ∃ z : Int64 → Int32 → VS → Prop, z = (fun x3 x5 V => ∃ n', n' < n ∧ J n' x3 x5 V) := ⟨_, rfl⟩
      rw [← eB] at h
      have kB5 : ∀ (x3 : Int64) (x5 : Int32) (V : VS) (H : Heap) (locs : List Loc) (ls : Array Slot), B5 x3 x5 V → ST G ks ad V (mA ks ad sz) s.heap H locs → lv_has ls 8 [(0, .ref (ad 1 w 0)), (3, .long x3), (5, .int x5)] → W p l e ({ frames := 5, cells := 0, slots := 0, locals := 110 } : Room) s m args below meth c H locs 0 0 (MQ below (mQl post G ks ad sz) args s 0 0 (mA ks ad sz)) (F0 m 5 ls []) := by
        intro x3 x5 V H locs ls h hS hl
        rw [eB] at h
        obtain ⟨n', hn, hJ'⟩ := h
        exact ih n' hn _ _ _ _ _ _ hS hl hJ'
      clear ih hJ hb eB
      unfold wk_X7_mixBooksAndReaders_5 at h
      have kT67 : ∀ (x5 : Int32) (x6i : Nat) (x3 : Int64) (x7 : Int32) (V : VS) (H : Heap) (locs : List Loc) (ls : Array Slot), wl_X7_mixBooksAndReaders_67 ks w a1 post B5 x5 x6i x3 x7 V → ST G ks ad V (mA ks ad sz) s.heap H locs → lv_has ls 8 [(0, .ref (ad 1 w 0)), (3, .long x3), (5, .int x5), (6, .ref (ad 8 w x6i)), (7, .int x7)] → W p l e ({ frames := 5, cells := 0, slots := 0, locals := 110 } : Room) s m args below meth c H locs 0 0 (MQ below (mQl post G ks ad sz) args s 0 0 (mA ks ad sz)) (F0 m 67 ls []) := by
        intro x5 x6i x3 x7 V H locs ls h hS hl
        obtain ⟨J, ⟨n, hJ⟩, hb⟩ := h
        induction n using Nat.strongRecOn generalizing x3 x7 V H locs ls with
        | _ n ih =>
          have h := hb n x3 x7 V hJ
          obtain ⟨B67, eB⟩ : ∃ z : Int64 → Int32 → VS → Prop, z = (fun x3 x7 V => ∃ n', n' < n ∧ J n' x3 x7 V) := ⟨_, rfl⟩
          rw [← eB] at h
          have kB67 : ∀ (x3 : Int64) (x7 : Int32) (V : VS) (H : Heap) (locs : List Loc) (ls : Array Slot), B67 x3 x7 V → ST G ks ad V (mA ks ad sz) s.heap H locs → lv_has ls 8 [(0, .ref (ad 1 w 0)), (3, .long x3), (5, .int x5), (6, .ref (ad 8 w x6i)), (7, .int x7)] → W p l e ({ frames := 5, cells := 0, slots := 0, locals := 110 } : Room) s m args below meth c H locs 0 0 (MQ below (mQl post G ks ad sz) args s 0 0 (mA ks ad sz)) (F0 m 67 ls []) := by
            intro x3 x7 V H locs ls h hS hl
            rw [eB] at h
            obtain ⟨n', hn, hJ'⟩ := h
            exact ih n' hn _ _ _ _ _ _ hS hl hJ'
          clear ih hJ hb eB
          unfold wk_X7_mixBooksAndReaders_67 at h
          refine lv_iload hC.1 hC.2.1 dX7_mixBooksAndReaders_67 (lv_at hl 4 rfl) ?_
          refine lv_aload hC.1 hC.2.1 dX7_mixBooksAndReaders_69 (lv_at hl 3 rfl) ?_
          obtain ⟨hk13, h⟩ := h
          refine g_calli0 hS (g_runV (n := 0) (rest := [.int x7]) (As := []) (C := RX3) (T := TX3) (N := 2) hC hS hk13 rfl rfl (c_X3_size l G ks ad w x6i V _ h _) (gI wq_292 wq_293 wq_294 wq_63 wq_295) rfl ⟨⟨by decide +kernel, by decide +kernel, by decide +kernel⟩, rfl, rfl, Nat.le_of_ble_eq_true rfl, Nat.le_of_ble_eq_true rfl⟩ rfl hl rfl (Nat.le_of_ble_eq_true rfl) dX7_mixBooksAndReaders_71 ⟨Nat.le_of_ble_eq_true rfl, Nat.le_of_ble_eq_true rfl⟩) (fun r14 V12 H locs h hS => ?_)
          refine lv_icmp_ge (tgt := 96) hC.1 hC.2.1 dX7_mixBooksAndReaders_74 (by decide) (fun c21 => ?_) (fun c21 => ?_)
          · have h := h.1 c21
            obtain ⟨y15, ey15⟩ : ∃ z : Int32, z = x5 + 1 := ⟨_, rfl⟩
            have h := h y15 ey15
            refine lv_iinc (v := y15) (lv' := [(5, .int y15), (0, .ref (ad 1 w 0)), (3, .long x3), (6, .ref (ad 8 w x6i)), (7, .int x7)]) hC.1 hC.2.1 dX7_mixBooksAndReaders_96 hl (k := 2) rfl (by rw [ey15]; rfl) (by decide) rfl (fun ls hl => ?_)
            refine lv_goto (tgt := 5) hC.1 hC.2.1 dX7_mixBooksAndReaders_99 (by decide) ?_
            exact kB5 _ _ _ _ _ _ h hS (lv_sub hl [1, 2, 0] rfl)
          · have h := h.2 c21
            refine lv_lload_n hC.1 hC.2.1 dX7_mixBooksAndReaders_77 rfl (lv_at hl 1 rfl) ?_
            refine lv_aload hC.1 hC.2.1 dX7_mixBooksAndReaders_78 (lv_at hl 3 rfl) ?_
            refine lv_iload hC.1 hC.2.1 dX7_mixBooksAndReaders_80 (lv_at hl 4 rfl) ?_
            refine g_calli0 hS (g_runV (n := 1) (rest := [.long x3]) (As := [.int x7]) (C := RX3) (T := TX3) (N := 2) hC hS hk13 rfl rfl (c_X3_readerAt l G ks ad w x6i x7 V12 _ h _) (gI wq_308 wq_309 wq_310 wq_63 wq_311) rfl ⟨⟨by decide +kernel, by decide +kernel, by decide +kernel⟩, rfl, rfl, Nat.le_of_ble_eq_true rfl, Nat.le_of_ble_eq_true rfl⟩ rfl hl rfl (Nat.le_of_ble_eq_true rfl) dX7_mixBooksAndReaders_82 ⟨Nat.le_of_ble_eq_true rfl, Nat.le_of_ble_eq_true rfl⟩) (fun r17 V16 H locs h hS => ?_)
            refine lv_i2l hC.1 hC.2.1 dX7_mixBooksAndReaders_85 rfl ?_
            refine g_calll0 hS (g_runSN (n := 2) (rest := []) (As := [.long x3, .long r17.toInt64]) hC hS (c_X8_mix l G ks ad x3 r17.toInt64 V16 _ h _) wq_238 wq_239 wq_39 wq_240 ⟨⟨by decide +kernel, by decide +kernel, by decide +kernel⟩, rfl, rfl, Nat.le_of_ble_eq_true rfl, Nat.le_of_ble_eq_true rfl⟩ rfl hl rfl (Nat.le_of_ble_eq_true rfl) dX7_mixBooksAndReaders_86 ⟨Nat.le_of_ble_eq_true rfl, Nat.le_of_ble_eq_true rfl⟩) (fun r19 V18 H locs h hS => ?_)
            refine lv_lstore_n (lv' := [(3, .long r19), (0, .ref (ad 1 w 0)), (5, .int x5), (6, .ref (ad 8 w x6i)), (7, .int x7)]) hC.1 hC.2.1 dX7_mixBooksAndReaders_89 rfl hl (by decide) rfl (fun ls hl => ?_)
            obtain ⟨y20, ey20⟩ : ∃ z : Int32, z = x7 + 1 := ⟨_, rfl⟩
            have h := h y20 ey20
            refine lv_iinc (v := y20) (lv' := [(7, .int y20), (3, .long r19), (0, .ref (ad 1 w 0)), (5, .int x5), (6, .ref (ad 8 w x6i))]) hC.1 hC.2.1 dX7_mixBooksAndReaders_90 hl (k := 4) rfl (by rw [ey20]; rfl) (by decide) rfl (fun ls hl => ?_)
            refine lv_goto (tgt := 67) hC.1 hC.2.1 dX7_mixBooksAndReaders_93 (by decide) ?_
            exact kB67 _ _ _ _ _ _ h hS (lv_sub hl [2, 1, 3, 4, 0] rfl)
      have kT20 : ∀ (x5 : Int32) (x3 : Int64) (x6 : Int32) (V : VS) (H : Heap) (locs : List Loc) (ls : Array Slot), wl_X7_mixBooksAndReaders_20 ks w a1 post B5 x5 x3 x6 V → ST G ks ad V (mA ks ad sz) s.heap H locs → lv_has ls 8 [(0, .ref (ad 1 w 0)), (3, .long x3), (5, .int x5), (6, .int x6)] → W p l e ({ frames := 5, cells := 0, slots := 0, locals := 110 } : Room) s m args below meth c H locs 0 0 (MQ below (mQl post G ks ad sz) args s 0 0 (mA ks ad sz)) (F0 m 20 ls []) := by
        intro x5 x3 x6 V H locs ls h hS hl
        obtain ⟨J, ⟨n, hJ⟩, hb⟩ := h
        induction n using Nat.strongRecOn generalizing x3 x6 V H locs ls with
        | _ n ih =>
          have h := hb n x3 x6 V hJ
          obtain ⟨B20, eB⟩ : ∃ z : Int64 → Int32 → VS → Prop, z = (fun x3 x6 V => ∃ n', n' < n ∧ J n' x3 x6 V) := ⟨_, rfl⟩
          rw [← eB] at h
          have kB20 : ∀ (x3 : Int64) (x6 : Int32) (V : VS) (H : Heap) (locs : List Loc) (ls : Array Slot), B20 x3 x6 V → ST G ks ad V (mA ks ad sz) s.heap H locs → lv_has ls 8 [(0, .ref (ad 1 w 0)), (3, .long x3), (5, .int x5), (6, .int x6)] → W p l e ({ frames := 5, cells := 0, slots := 0, locals := 110 } : Room) s m args below meth c H locs 0 0 (MQ below (mQl post G ks ad sz) args s 0 0 (mA ks ad sz)) (F0 m 20 ls []) := by
            intro x3 x6 V H locs ls h hS hl
            rw [eB] at h
            obtain ⟨n', hn, hJ'⟩ := h
            exact ih n' hn _ _ _ _ _ _ hS hl hJ'
          clear ih hJ hb eB
          unfold wk_X7_mixBooksAndReaders_20 at h
          refine lv_iload hC.1 hC.2.1 dX7_mixBooksAndReaders_20 (lv_at hl 3 rfl) ?_
          refine lv_bipush (v := 7) hC.1 hC.2.1 dX7_mixBooksAndReaders_22 (by decide) ?_
          refine lv_icmp_ge (tgt := 47) hC.1 hC.2.1 dX7_mixBooksAndReaders_24 (by decide) (fun c35 => ?_) (fun c35 => ?_)
          · have h := h.1 c35
            refine lv_aload_n hC.1 hC.2.1 dX7_mixBooksAndReaders_47 rfl (lv_at hl 0 rfl) ?_
            obtain ⟨hk22, h⟩ := h
            refine gf_1_2 hC hS hk22 wq_138 dX7_mixBooksAndReaders_48 ?_
            refine lv_iload hC.1 hC.2.1 dX7_mixBooksAndReaders_51 (lv_at hl 2 rfl) ?_
            obtain ⟨hk23, h⟩ := h
            obtain ⟨hk24, h⟩ := h
            obtain ⟨hq25, h⟩ := h
            obtain ⟨hx26, h⟩ := h
            refine g_lget (E := 6) hC hS rfl hk23 hk24 hq25 hx26.1 hx26.2 wq_187 hl ⟨Nat.le_of_ble_eq_true rfl, Nat.le_of_ble_eq_true rfl, Nat.zero_le _⟩ (Nat.le_of_ble_eq_true rfl) dX7_mixBooksAndReaders_53 ⟨Nat.le_of_ble_eq_true rfl, Nat.le_of_ble_eq_true rfl⟩ (fun j27 ej27 H locs hS => ?_)
            have h := h j27 ej27
            obtain ⟨hk28, h⟩ := h
            refine g_cast hC hS hk28 rfl (show vwCl[1]? = some (RX0, TX0, 6) from rfl) wq_201 dX7_mixBooksAndReaders_56 ?_
            refine gn_6_2 hC hS hk28 wq_684 dX7_mixBooksAndReaders_59 ?_
            refine lv_astore (lv' := [(6, .ref (ad 8 w j27)), (0, .ref (ad 1 w 0)), (3, .long x3), (5, .int x5)]) hC.1 hC.2.1 dX7_mixBooksAndReaders_62 hl (by decide) rfl (fun ls hl => ?_)
            refine lv_iconst (v := 0) hC.1 hC.2.1 dX7_mixBooksAndReaders_64 (by decide) ?_
            refine lv_istore (lv' := [(7, .int 0), (6, .ref (ad 8 w j27)), (0, .ref (ad 1 w 0)), (3, .long x3), (5, .int x5)]) hC.1 hC.2.1 dX7_mixBooksAndReaders_65 hl (by decide) rfl (fun ls hl => ?_)
            exact kT67 _ _ _ _ _ _ _ _ h hS (lv_sub hl [2, 3, 4, 1, 0] rfl)
          · have h := h.2 c35
            refine lv_lload_n hC.1 hC.2.1 dX7_mixBooksAndReaders_27 rfl (lv_at hl 1 rfl) ?_
            refine lv_aload_n hC.1 hC.2.1 dX7_mixBooksAndReaders_28 rfl (lv_at hl 0 rfl) ?_
            refine lv_iload hC.1 hC.2.1 dX7_mixBooksAndReaders_29 (lv_at hl 2 rfl) ?_
            refine lv_iload hC.1 hC.2.1 dX7_mixBooksAndReaders_31 (lv_at hl 3 rfl) ?_
            obtain ⟨hk30, h⟩ := h
            refine g_calli0 hS (g_runV (n := 2) (rest := [.long x3]) (As := [.int x5, .int x6]) (C := RX7) (T := TX7) (N := 9) hC hS hk30 rfl rfl (c_X7_bookAnswer l G ks ad w x5 x6 V _ h _) (gI wq_288 wq_289 wq_290 wq_40 wq_291) rfl ⟨⟨by decide +kernel, by decide +kernel, by decide +kernel⟩, rfl, rfl, Nat.le_of_ble_eq_true rfl, Nat.le_of_ble_eq_true rfl⟩ rfl hl rfl (Nat.le_of_ble_eq_true rfl) dX7_mixBooksAndReaders_33 ⟨Nat.le_of_ble_eq_true rfl, Nat.le_of_ble_eq_true rfl⟩) (fun r31 V29 H locs h hS => ?_)
            refine lv_i2l hC.1 hC.2.1 dX7_mixBooksAndReaders_36 rfl ?_
            refine g_calll0 hS (g_runSN (n := 2) (rest := []) (As := [.long x3, .long r31.toInt64]) hC hS (c_X8_mix l G ks ad x3 r31.toInt64 V29 _ h _) wq_238 wq_239 wq_39 wq_240 ⟨⟨by decide +kernel, by decide +kernel, by decide +kernel⟩, rfl, rfl, Nat.le_of_ble_eq_true rfl, Nat.le_of_ble_eq_true rfl⟩ rfl hl rfl (Nat.le_of_ble_eq_true rfl) dX7_mixBooksAndReaders_37 ⟨Nat.le_of_ble_eq_true rfl, Nat.le_of_ble_eq_true rfl⟩) (fun r33 V32 H locs h hS => ?_)
            refine lv_lstore_n (lv' := [(3, .long r33), (0, .ref (ad 1 w 0)), (5, .int x5), (6, .int x6)]) hC.1 hC.2.1 dX7_mixBooksAndReaders_40 rfl hl (by decide) rfl (fun ls hl => ?_)
            obtain ⟨y34, ey34⟩ : ∃ z : Int32, z = x6 + 1 := ⟨_, rfl⟩
            have h := h y34 ey34
            refine lv_iinc (v := y34) (lv' := [(6, .int y34), (3, .long r33), (0, .ref (ad 1 w 0)), (5, .int x5)]) hC.1 hC.2.1 dX7_mixBooksAndReaders_41 hl (k := 3) rfl (by rw [ey34]; rfl) (by decide) rfl (fun ls hl => ?_)
            refine lv_goto (tgt := 20) hC.1 hC.2.1 dX7_mixBooksAndReaders_44 (by decide) ?_
            exact kB20 _ _ _ _ _ _ h hS (lv_sub hl [2, 1, 3, 0] rfl)
      refine lv_iload hC.1 hC.2.1 dX7_mixBooksAndReaders_5 (lv_at hl 2 rfl) ?_
      refine lv_aload_n hC.1 hC.2.1 dX7_mixBooksAndReaders_7 rfl (lv_at hl 0 rfl) ?_
      obtain ⟨hk36, h⟩ := h
      refine gf_1_2 hC hS hk36 wq_138 dX7_mixBooksAndReaders_8 ?_
      obtain ⟨hk37, h⟩ := h
      refine g_lsize hC hS hk37 wq_183 hl ⟨Nat.le_of_ble_eq_true rfl, Nat.le_of_ble_eq_true rfl, Nat.zero_le _⟩ (Nat.le_of_ble_eq_true rfl) dX7_mixBooksAndReaders_11 ⟨Nat.le_of_ble_eq_true rfl, Nat.le_of_ble_eq_true rfl⟩ (fun H locs hS => ?_)
      refine lv_icmp_ge (tgt := 102) hC.1 hC.2.1 dX7_mixBooksAndReaders_14 (by decide) (fun c38 => ?_) (fun c38 => ?_)
      · have h := h.1 c38
        refine lv_iconst (v := 0) hC.1 hC.2.1 dX7_mixBooksAndReaders_102 (by decide) ?_
        refine lv_istore (lv' := [(5, .int 0), (0, .ref (ad 1 w 0)), (3, .long x3)]) hC.1 hC.2.1 dX7_mixBooksAndReaders_103 hl (by decide) rfl (fun ls hl => ?_)
        exact kT105 _ _ _ _ _ _ h hS (lv_sub hl [1, 2, 0] rfl)
      · have h := h.2 c38
        refine lv_iconst (v := 0) hC.1 hC.2.1 dX7_mixBooksAndReaders_17 (by decide) ?_
        refine lv_istore (lv' := [(6, .int 0), (0, .ref (ad 1 w 0)), (3, .long x3), (5, .int x5)]) hC.1 hC.2.1 dX7_mixBooksAndReaders_18 hl (by decide) rfl (fun ls hl => ?_)
        exact kT20 _ _ _ _ _ _ _ h hS (lv_sub hl [1, 2, 3, 0] rfl)
  refine lv_lload_n hC.1 hC.2.1 dX7_mixBooksAndReaders_0 rfl (lv_at hl 1 rfl) ?_
  refine lv_lstore_n (lv' := [(3, .long a1), (0, .ref (ad 1 w 0)), (1, .long a1)]) hC.1 hC.2.1 dX7_mixBooksAndReaders_1 rfl hl (by decide) rfl (fun ls hl => ?_)
  refine lv_iconst (v := 0) hC.1 hC.2.1 dX7_mixBooksAndReaders_2 (by decide) ?_
  refine lv_istore (lv' := [(5, .int 0), (3, .long a1), (0, .ref (ad 1 w 0)), (1, .long a1)]) hC.1 hC.2.1 dX7_mixBooksAndReaders_3 hl (by decide) rfl (fun ls hl => ?_)
  exact kT5 _ _ _ _ _ _ h hS (lv_sub hl [2, 1, 0] rfl)
def wb_X8_loansAhead_27 (ks : List KY) (a1 : Int32) (a2 : Int32) (post : Int32 → VS → Prop) (x1 : Int32) (V : VS) : Prop := ((0, 0, 0) ∈ ks ∧ (1, 1, 0) ∈ ks ∧ wp_X7_passDays ks 1 x1 V (fun V2 => (wp_X7_loansOfAll ks 1 V2 (fun r5 V4 => ((1, 0, 0) ∈ ks ∧ wp_X7_loansOfAll ks 0 V4 (fun r8 V6 => (post (r5 - r8) V6)))))))
def wp_X8_loansAhead (ks : List KY) (a1 : Int32) (a2 : Int32) (V : VS) (post : Int32 → VS → Prop) : Prop := ((0, 0, 0) ∈ ks ∧ (1, 1, 0) ∈ ks ∧ wp_X7_copyFrom ks 1 0 V (fun V10 => ((a2 = (-1) → wb_X8_loansAhead_27 ks a1 a2 post a1 V10) ∧ (¬ (a2 = (-1)) → ((12, 1, 0) ∈ ks ∧ wp_X5_append ks 1 a2 V10 (fun V12 => wb_X8_loansAhead_27 ks a1 a2 post a1 V12))))))
set_option maxHeartbeats 4000000 in
set_option maxRecDepth 100000 in
theorem c_X8_loansAhead (l : Launch) (G : GG) (ks : List KY) (ad : AD) (a1 : Int32) (a2 : Int32) (V : VS) (post : Int32 → VS → Prop) (h : wp_X8_loansAhead ks a1 a2 V post) (sz : Nat) : Met l yX8_loansAhead (ws_ yX8_loansAhead cX8_loansAhead 3 (some .int)) ({ frames := 7, cells := 0, slots := 0, locals := 159 }) (mPc [.ref (ad 0 0 0), .int a1, .int a2] G ks ad V sz) (mQi post G ks ad sz) 0 0 (mA ks ad sz) := by
  refine g_met (own := RX8) (by decide) rfl (Nat.le_of_ble_eq_true rfl) ?_
  intro p e s m args below meth c ls hC hsz hr hlk hin hS ha hl
  have hl : lv_has ls 3 [(0, .ref (ad 0 0 0)), (1, .int a1), (2, .int a2)] := hl
  unfold wp_X8_loansAhead at h
  have kT27 : ∀ (x1 : Int32) (V : VS) (H : Heap) (locs : List Loc) (ls : Array Slot), wb_X8_loansAhead_27 ks a1 a2 post x1 V → ST G ks ad V (mA ks ad sz) s.heap H locs → lv_has ls 3 [(0, .ref (ad 0 0 0)), (1, .int x1)] → W p l e ({ frames := 7, cells := 0, slots := 0, locals := 159 } : Room) s m args below meth c H locs 0 0 (MQ below (mQi post G ks ad sz) args s 0 0 (mA ks ad sz)) (F0 m 27 ls []) := by
    intro x1 V H locs ls h hS hl
    unfold wb_X8_loansAhead_27 at h
    refine lv_aload_n hC.1 hC.2.1 dX8_loansAhead_27 rfl (lv_at hl 0 rfl) ?_
    obtain ⟨hk1, h⟩ := h
    refine gf_0_1 hC hS hk1 wq_169 dX8_loansAhead_28 ?_
    refine lv_iload_n hC.1 hC.2.1 dX8_loansAhead_31 rfl (lv_at hl 1 rfl) ?_
    obtain ⟨hk3, h⟩ := h
    refine g_callv0 hS (g_runV (n := 1) (rest := []) (As := [.int x1]) (C := RX7) (T := TX7) (N := 9) hC hS hk3 rfl rfl (c_X7_passDays l G ks ad 1 x1 V _ h _) (gI wq_828 wq_829 wq_830 wq_40 wq_831) rfl ⟨⟨by decide +kernel, by decide +kernel, by decide +kernel⟩, rfl, rfl, Nat.le_of_ble_eq_true rfl, Nat.le_of_ble_eq_true rfl⟩ rfl hl rfl (Nat.le_of_ble_eq_true rfl) dX8_loansAhead_32 ⟨Nat.le_of_ble_eq_true rfl, Nat.le_of_ble_eq_true rfl⟩) (fun V2 H locs h hS => ?_)
    refine lv_aload_n hC.1 hC.2.1 dX8_loansAhead_35 rfl (lv_at hl 0 rfl) ?_
    refine gf_0_1 hC hS hk1 wq_169 dX8_loansAhead_36 ?_
    refine g_calli0 hS (g_runV (n := 0) (rest := []) (As := []) (C := RX7) (T := TX7) (N := 9) hC hS hk3 rfl rfl (c_X7_loansOfAll l G ks ad 1 V2 _ h _) (gI wq_179 wq_180 wq_181 wq_40 wq_182) rfl ⟨⟨by decide +kernel, by decide +kernel, by decide +kernel⟩, rfl, rfl, Nat.le_of_ble_eq_true rfl, Nat.le_of_ble_eq_true rfl⟩ rfl hl rfl (Nat.le_of_ble_eq_true rfl) dX8_loansAhead_39 ⟨Nat.le_of_ble_eq_true rfl, Nat.le_of_ble_eq_true rfl⟩) (fun r5 V4 H locs h hS => ?_)
    refine lv_aload_n hC.1 hC.2.1 dX8_loansAhead_42 rfl (lv_at hl 0 rfl) ?_
    refine gf_0_0 hC hS hk1 wq_168 dX8_loansAhead_43 ?_
    obtain ⟨hk7, h⟩ := h
    refine g_calli0 hS (g_runV (n := 0) (rest := [.int r5]) (As := []) (C := RX7) (T := TX7) (N := 9) hC hS hk7 rfl rfl (c_X7_loansOfAll l G ks ad 0 V4 _ h _) (gI wq_179 wq_180 wq_181 wq_40 wq_182) rfl ⟨⟨by decide +kernel, by decide +kernel, by decide +kernel⟩, rfl, rfl, Nat.le_of_ble_eq_true rfl, Nat.le_of_ble_eq_true rfl⟩ rfl hl rfl (Nat.le_of_ble_eq_true rfl) dX8_loansAhead_46 ⟨Nat.le_of_ble_eq_true rfl, Nat.le_of_ble_eq_true rfl⟩) (fun r8 V6 H locs h hS => ?_)
    refine lv_isub hC.1 hC.2.1 dX8_loansAhead_49 ?_
    exact g_iret hC hr hlk hS h dX8_loansAhead_50
  refine lv_aload_n hC.1 hC.2.1 dX8_loansAhead_0 rfl (lv_at hl 0 rfl) ?_
  obtain ⟨hk9, h⟩ := h
  refine gf_0_1 hC hS hk9 wq_169 dX8_loansAhead_1 ?_
  refine lv_aload_n hC.1 hC.2.1 dX8_loansAhead_4 rfl (lv_at hl 0 rfl) ?_
  refine gf_0_0 hC hS hk9 wq_168 dX8_loansAhead_5 ?_
  obtain ⟨hk11, h⟩ := h
  refine g_callv0 hS (g_runV (n := 1) (rest := []) (As := [.ref (ad 1 0 0)]) (C := RX7) (T := TX7) (N := 9) hC hS hk11 rfl rfl (c_X7_copyFrom l G ks ad 1 0 V _ h _) (gI wq_901 wq_902 wq_903 wq_40 wq_904) rfl ⟨⟨by decide +kernel, by decide +kernel, by decide +kernel⟩, rfl, rfl, Nat.le_of_ble_eq_true rfl, Nat.le_of_ble_eq_true rfl⟩ rfl hl rfl (Nat.le_of_ble_eq_true rfl) dX8_loansAhead_8 ⟨Nat.le_of_ble_eq_true rfl, Nat.le_of_ble_eq_true rfl⟩) (fun V10 H locs h hS => ?_)
  refine lv_iload_n hC.1 hC.2.1 dX8_loansAhead_11 rfl (lv_at hl 2 rfl) ?_
  refine lv_iconst (v := (-1)) hC.1 hC.2.1 dX8_loansAhead_12 (by decide) ?_
  refine lv_icmp_eq (tgt := 27) hC.1 hC.2.1 dX8_loansAhead_13 (by decide) (fun c14 => ?_) (fun c14 => ?_)
  · have h := h.1 c14
    exact kT27 _ _ _ _ _ h hS (lv_sub hl [0, 1] rfl)
  · have h := h.2 c14
    refine lv_aload_n hC.1 hC.2.1 dX8_loansAhead_16 rfl (lv_at hl 0 rfl) ?_
    refine gf_0_1 hC hS hk9 wq_169 dX8_loansAhead_17 ?_
    refine gn_1_5 hC hS hk11 wq_144 dX8_loansAhead_20 ?_
    refine lv_iload_n hC.1 hC.2.1 dX8_loansAhead_23 rfl (lv_at hl 2 rfl) ?_
    obtain ⟨hk13, h⟩ := h
    refine g_callv0 hS (g_runV (n := 1) (rest := []) (As := [.int a2]) (C := RX5) (T := TX5) (N := 3) hC hS hk13 rfl rfl (c_X5_append l G ks ad 1 a2 V10 _ h _) (gI wq_963 wq_599 wq_600 wq_45 wq_601) rfl ⟨⟨by decide +kernel, by decide +kernel, by decide +kernel⟩, rfl, rfl, Nat.le_of_ble_eq_true rfl, Nat.le_of_ble_eq_true rfl⟩ rfl hl rfl (Nat.le_of_ble_eq_true rfl) dX8_loansAhead_24 ⟨Nat.le_of_ble_eq_true rfl, Nat.le_of_ble_eq_true rfl⟩) (fun V12 H locs h hS => ?_)
    exact kT27 _ _ _ _ _ h hS (lv_sub hl [0, 1] rfl)
def wp_X8_digest (ks : List KY) (V : VS) (post : Int64 → VS → Prop) : Prop := ((0, 0, 0) ∈ ks ∧ (1, 0, 0) ∈ ks ∧ wp_X7_mixVan ks 0 607 V (fun r4 V2 => (wp_X7_mixHaltsAndLanes ks 0 r4 V2 (fun r6 V5 => (wp_X7_mixBooksAndReaders ks 0 r6 V5 (fun r8 V7 => (post r8 V7)))))))
set_option maxHeartbeats 4000000 in
set_option maxRecDepth 100000 in
theorem c_X8_digest (l : Launch) (G : GG) (ks : List KY) (ad : AD) (V : VS) (post : Int64 → VS → Prop) (h : wp_X8_digest ks V post) (sz : Nat) : Met l yX8_digest (ws_ yX8_digest cX8_digest 3 (some .long)) ({ frames := 6, cells := 0, slots := 0, locals := 137 }) (mPc [.ref (ad 0 0 0)] G ks ad V sz) (mQl post G ks ad sz) 0 0 (mA ks ad sz) := by
  refine g_met (own := RX8) (by decide) rfl (Nat.le_of_ble_eq_true rfl) ?_
  intro p e s m args below meth c ls hC hsz hr hlk hin hS ha hl
  have hl : lv_has ls 3 [(0, .ref (ad 0 0 0))] := hl
  unfold wp_X8_digest at h
  refine lv_aload_n hC.1 hC.2.1 dX8_digest_0 rfl (lv_at hl 0 rfl) ?_
  obtain ⟨hk1, h⟩ := h
  refine gf_0_0 hC hS hk1 wq_168 dX8_digest_1 ?_
  refine lv_ldc2 hC.1 hC.2.1 hC.2.2.2.1 (hC.2.2.2.2.1 _ wq_206) dX8_digest_4 ?_
  obtain ⟨hk3, h⟩ := h
  refine g_calll0 hS (g_runV (n := 1) (rest := []) (As := [.long 607]) (C := RX7) (T := TX7) (N := 9) hC hS hk3 rfl rfl (c_X7_mixVan l G ks ad 0 607 V _ h _) (gI wq_207 wq_208 wq_209 wq_40 wq_210) rfl ⟨⟨by decide +kernel, by decide +kernel, by decide +kernel⟩, rfl, rfl, Nat.le_of_ble_eq_true rfl, Nat.le_of_ble_eq_true rfl⟩ rfl hl rfl (Nat.le_of_ble_eq_true rfl) dX8_digest_7 ⟨Nat.le_of_ble_eq_true rfl, Nat.le_of_ble_eq_true rfl⟩) (fun r4 V2 H locs h hS => ?_)
  refine lv_lstore_n (lv' := [(1, .long r4), (0, .ref (ad 0 0 0))]) hC.1 hC.2.1 dX8_digest_10 rfl hl (by decide) rfl (fun ls hl => ?_)
  refine lv_aload_n hC.1 hC.2.1 dX8_digest_11 rfl (lv_at hl 1 rfl) ?_
  refine gf_0_0 hC hS hk1 wq_168 dX8_digest_12 ?_
  refine lv_lload_n hC.1 hC.2.1 dX8_digest_15 rfl (lv_at hl 0 rfl) ?_
  refine g_calll0 hS (g_runV (n := 1) (rest := []) (As := [.long r4]) (C := RX7) (T := TX7) (N := 9) hC hS hk3 rfl rfl (c_X7_mixHaltsAndLanes l G ks ad 0 r4 V2 _ h _) (gI wq_254 wq_255 wq_256 wq_40 wq_257) rfl ⟨⟨by decide +kernel, by decide +kernel, by decide +kernel⟩, rfl, rfl, Nat.le_of_ble_eq_true rfl, Nat.le_of_ble_eq_true rfl⟩ rfl hl rfl (Nat.le_of_ble_eq_true rfl) dX8_digest_16 ⟨Nat.le_of_ble_eq_true rfl, Nat.le_of_ble_eq_true rfl⟩) (fun r6 V5 H locs h hS => ?_)
  refine lv_lstore_n (lv' := [(1, .long r6), (0, .ref (ad 0 0 0))]) hC.1 hC.2.1 dX8_digest_19 rfl hl (by decide) rfl (fun ls hl => ?_)
  refine lv_aload_n hC.1 hC.2.1 dX8_digest_20 rfl (lv_at hl 1 rfl) ?_
  refine gf_0_0 hC hS hk1 wq_168 dX8_digest_21 ?_
  refine lv_lload_n hC.1 hC.2.1 dX8_digest_24 rfl (lv_at hl 0 rfl) ?_
  refine g_calll0 hS (g_runV (n := 1) (rest := []) (As := [.long r6]) (C := RX7) (T := TX7) (N := 9) hC hS hk3 rfl rfl (c_X7_mixBooksAndReaders l G ks ad 0 r6 V5 _ h _) (gI wq_284 wq_285 wq_286 wq_40 wq_287) rfl ⟨⟨by decide +kernel, by decide +kernel, by decide +kernel⟩, rfl, rfl, Nat.le_of_ble_eq_true rfl, Nat.le_of_ble_eq_true rfl⟩ rfl hl rfl (Nat.le_of_ble_eq_true rfl) dX8_digest_25 ⟨Nat.le_of_ble_eq_true rfl, Nat.le_of_ble_eq_true rfl⟩) (fun r8 V7 H locs h hS => ?_)
  exact g_lret hC hr hlk hS h dX8_digest_28
