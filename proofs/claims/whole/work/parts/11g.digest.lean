/-! the digest -/
def wk_X10_digest_312 (ks : List KY) (post : Int64 → VS → Prop) (B301 : Int64 → Int32 → VS → Prop) (B312 : Int64 → Int32 → VS → Prop) (x3 : Int32) (x1 : Int64) (x4 : Int32) (V : VS) : Prop := (((8 : Int32) ≤ x4 → (∀ y1 : Int32, y1 = x3 + 1 → B301 x1 y1 V)) ∧ (¬ ((8 : Int32) ≤ x4) → ((15, 0, 0) ∈ ks ∧ wp_X10_readerTold ks x3 x4 V (fun r4 V2 => (∀ y5 : Int64, y5 = (x1 * 31) + r4.toInt64 → ∀ y6 : Int32, y6 = x4 + 1 → B312 y5 y6 V2)))))
def wl_X10_digest_312 (ks : List KY) (post : Int64 → VS → Prop) (B301 : Int64 → Int32 → VS → Prop) (x3 : Int32) (x1 : Int64) (x4 : Int32) (V : VS) : Prop := ∃ J : Nat → Int64 → Int32 → VS → Prop, (∃ n, J n x1 x4 V) ∧ ∀ (n : Nat) (x1 : Int64) (x4 : Int32) (V : VS), J n x1 x4 V → wk_X10_digest_312 ks post B301 (fun x1 x4 V => ∃ n', n' < n ∧ J n' x1 x4 V) x3 x1 x4 V
def wk_X10_digest_301 (ks : List KY) (post : Int64 → VS → Prop) (B301 : Int64 → Int32 → VS → Prop) (x1 : Int64) (x3 : Int32) (V : VS) : Prop := ((15, 0, 0) ∈ ks ∧ ((V 15 0 0 8 0) ≤ x3 → (post x1 V)) ∧ (¬ ((V 15 0 0 8 0) ≤ x3) → (wl_X10_digest_312 ks post B301 x3 x1 0 V)))
def wl_X10_digest_301 (ks : List KY) (post : Int64 → VS → Prop) (x1 : Int64) (x3 : Int32) (V : VS) : Prop := ∃ J : Nat → Int64 → Int32 → VS → Prop, (∃ n, J n x1 x3 V) ∧ ∀ (n : Nat) (x1 : Int64) (x3 : Int32) (V : VS), J n x1 x3 V → wk_X10_digest_301 ks post (fun x1 x3 V => ∃ n', n' < n ∧ J n' x1 x3 V) x1 x3 V
def wk_X10_digest_250 (ks : List KY) (post : Int64 → VS → Prop) (B208 : Int64 → Int32 → VS → Prop) (B250 : Int64 → Int32 → VS → Prop) (x3 : Int32) (x1 : Int64) (x4 : Int32) (V : VS) : Prop := ((15, 0, 0) ∈ ks ∧ (16, 0, 0) ∈ ks ∧ (30, 0, 0) ∈ ks ∧ vp_in x3 24 ∧ ((V 30 0 0 0 x3.toNatClampNeg) ≤ x4 → (∀ y14 : Int32, y14 = x3 + 1 → B208 x1 y14 V)) ∧ (¬ ((V 30 0 0 0 x3.toNatClampNeg) ≤ x4) → ((29, 0, 0) ∈ ks ∧ vp_in ((10 * x3) + x4) 240 ∧ ∀ y17 : Int64, y17 = (x1 * 31) + ((V 29 0 0 0 ((10 * x3) + x4).toNatClampNeg).toInt64) → ∀ y18 : Int32, y18 = x4 + 1 → B250 y17 y18 V)))
def wl_X10_digest_250 (ks : List KY) (post : Int64 → VS → Prop) (B208 : Int64 → Int32 → VS → Prop) (x3 : Int32) (x1 : Int64) (x4 : Int32) (V : VS) : Prop := ∃ J : Nat → Int64 → Int32 → VS → Prop, (∃ n, J n x1 x4 V) ∧ ∀ (n : Nat) (x1 : Int64) (x4 : Int32) (V : VS), J n x1 x4 V → wk_X10_digest_250 ks post B208 (fun x1 x4 V => ∃ n', n' < n ∧ J n' x1 x4 V) x3 x1 x4 V
def wk_X10_digest_219 (ks : List KY) (post : Int64 → VS → Prop) (B208 : Int64 → Int32 → VS → Prop) (B219 : Int64 → Int32 → VS → Prop) (x3 : Int32) (x1 : Int64) (x4 : Int32) (V : VS) : Prop := (((7 : Int32) ≤ x4 → (wl_X10_digest_250 ks post B208 x3 x1 0 V)) ∧ (¬ ((7 : Int32) ≤ x4) → ((15, 0, 0) ∈ ks ∧ wp_X10_bookTold ks x3 x4 V (fun r22 V20 => (∀ y23 : Int64, y23 = (x1 * 31) + r22.toInt64 → ∀ y24 : Int32, y24 = x4 + 1 → B219 y23 y24 V20)))))
def wl_X10_digest_219 (ks : List KY) (post : Int64 → VS → Prop) (B208 : Int64 → Int32 → VS → Prop) (x3 : Int32) (x1 : Int64) (x4 : Int32) (V : VS) : Prop := ∃ J : Nat → Int64 → Int32 → VS → Prop, (∃ n, n ≤ 7 ∧ J n x1 x4 V) ∧ ∀ (n : Nat) (x1 : Int64) (x4 : Int32) (V : VS), J n x1 x4 V → wk_X10_digest_219 ks post B208 (fun x1 x4 V => ∃ n', n' < n ∧ J n' x1 x4 V) x3 x1 x4 V
def wk_X10_digest_208 (ks : List KY) (post : Int64 → VS → Prop) (B208 : Int64 → Int32 → VS → Prop) (x1 : Int64) (x3 : Int32) (V : VS) : Prop := ((15, 0, 0) ∈ ks ∧ ((V 15 0 0 6 0) ≤ x3 → (wl_X10_digest_301 ks post x1 0 V)) ∧ (¬ ((V 15 0 0 6 0) ≤ x3) → (wl_X10_digest_219 ks post B208 x3 x1 0 V)))
def wl_X10_digest_208 (ks : List KY) (post : Int64 → VS → Prop) (x1 : Int64) (x3 : Int32) (V : VS) : Prop := ∃ J : Nat → Int64 → Int32 → VS → Prop, (∃ n, n ≤ 24 ∧ J n x1 x3 V) ∧ ∀ (n : Nat) (x1 : Int64) (x3 : Int32) (V : VS), J n x1 x3 V → wk_X10_digest_208 ks post (fun x1 x3 V => ∃ n', n' < n ∧ J n' x1 x3 V) x1 x3 V
def wk_X10_digest_172 (ks : List KY) (post : Int64 → VS → Prop) (B161 : Int64 → Int32 → VS → Prop) (B172 : Int64 → Int32 → VS → Prop) (x3 : Int32) (x1 : Int64) (x4 : Int32) (V : VS) : Prop := (((6 : Int32) ≤ x4 → (∀ y28 : Int32, y28 = x3 + 1 → B161 x1 y28 V)) ∧ (¬ ((6 : Int32) ≤ x4) → ((15, 0, 0) ∈ ks ∧ wp_X10_laneTold ks x3 x4 V (fun r31 V29 => (∀ y32 : Int64, y32 = (x1 * 31) + r31.toInt64 → ∀ y33 : Int32, y33 = x4 + 1 → B172 y32 y33 V29)))))
def wl_X10_digest_172 (ks : List KY) (post : Int64 → VS → Prop) (B161 : Int64 → Int32 → VS → Prop) (x3 : Int32) (x1 : Int64) (x4 : Int32) (V : VS) : Prop := ∃ J : Nat → Int64 → Int32 → VS → Prop, (∃ n, J n x1 x4 V) ∧ ∀ (n : Nat) (x1 : Int64) (x4 : Int32) (V : VS), J n x1 x4 V → wk_X10_digest_172 ks post B161 (fun x1 x4 V => ∃ n', n' < n ∧ J n' x1 x4 V) x3 x1 x4 V
def wk_X10_digest_161 (ks : List KY) (post : Int64 → VS → Prop) (B161 : Int64 → Int32 → VS → Prop) (x1 : Int64) (x3 : Int32) (V : VS) : Prop := ((15, 0, 0) ∈ ks ∧ ((V 15 0 0 2 0) ≤ x3 → (wl_X10_digest_208 ks post x1 0 V)) ∧ (¬ ((V 15 0 0 2 0) ≤ x3) → (wl_X10_digest_172 ks post B161 x3 x1 0 V)))
def wl_X10_digest_161 (ks : List KY) (post : Int64 → VS → Prop) (x1 : Int64) (x3 : Int32) (V : VS) : Prop := ∃ J : Nat → Int64 → Int32 → VS → Prop, (∃ n, J n x1 x3 V) ∧ ∀ (n : Nat) (x1 : Int64) (x3 : Int32) (V : VS), J n x1 x3 V → wk_X10_digest_161 ks post (fun x1 x3 V => ∃ n', n' < n ∧ J n' x1 x3 V) x1 x3 V
def wk_X10_digest_126 (ks : List KY) (post : Int64 → VS → Prop) (B115 : Int64 → Int32 → VS → Prop) (B126 : Int64 → Int32 → VS → Prop) (x3 : Int32) (x1 : Int64) (x4 : Int32) (V : VS) : Prop := (((5 : Int32) ≤ x4 → (∀ y37 : Int32, y37 = x3 + 1 → B115 x1 y37 V)) ∧ (¬ ((5 : Int32) ≤ x4) → ((15, 0, 0) ∈ ks ∧ wp_X10_haltTold ks x3 x4 V (fun r40 V38 => (∀ y41 : Int64, y41 = (x1 * 31) + r40.toInt64 → ∀ y42 : Int32, y42 = x4 + 1 → B126 y41 y42 V38)))))
def wl_X10_digest_126 (ks : List KY) (post : Int64 → VS → Prop) (B115 : Int64 → Int32 → VS → Prop) (x3 : Int32) (x1 : Int64) (x4 : Int32) (V : VS) : Prop := ∃ J : Nat → Int64 → Int32 → VS → Prop, (∃ n, J n x1 x4 V) ∧ ∀ (n : Nat) (x1 : Int64) (x4 : Int32) (V : VS), J n x1 x4 V → wk_X10_digest_126 ks post B115 (fun x1 x4 V => ∃ n', n' < n ∧ J n' x1 x4 V) x3 x1 x4 V
def wk_X10_digest_115 (ks : List KY) (post : Int64 → VS → Prop) (B115 : Int64 → Int32 → VS → Prop) (x1 : Int64) (x3 : Int32) (V : VS) : Prop := ((15, 0, 0) ∈ ks ∧ ((V 15 0 0 1 0) ≤ x3 → (wl_X10_digest_161 ks post x1 0 V)) ∧ (¬ ((V 15 0 0 1 0) ≤ x3) → (wl_X10_digest_126 ks post B115 x3 x1 0 V)))
def wl_X10_digest_115 (ks : List KY) (post : Int64 → VS → Prop) (x1 : Int64) (x3 : Int32) (V : VS) : Prop := ∃ J : Nat → Int64 → Int32 → VS → Prop, (∃ n, J n x1 x3 V) ∧ ∀ (n : Nat) (x1 : Int64) (x3 : Int32) (V : VS), J n x1 x3 V → wk_X10_digest_115 ks post (fun x1 x3 V => ∃ n', n' < n ∧ J n' x1 x3 V) x1 x3 V
def wk_X10_digest_79 (ks : List KY) (post : Int64 → VS → Prop) (B79 : Int64 → Int32 → VS → Prop) (x1 : Int64) (x3 : Int32) (V : VS) : Prop := ((15, 0, 0) ∈ ks ∧ (16, 0, 0) ∈ ks ∧ ((V 16 0 0 5 0) ≤ x3 → (wl_X10_digest_115 ks post x1 0 V)) ∧ (¬ ((V 16 0 0 5 0) ≤ x3) → ((23, 0, 0) ∈ ks ∧ vp_in x3 8 ∧ ∀ y50 : Int64, y50 = (x1 * 31) + ((V 23 0 0 0 x3.toNatClampNeg).toInt64) → ∀ y51 : Int32, y51 = x3 + 1 → B79 y50 y51 V)))
def wl_X10_digest_79 (ks : List KY) (post : Int64 → VS → Prop) (x1 : Int64) (x3 : Int32) (V : VS) : Prop := ∃ J : Nat → Int64 → Int32 → VS → Prop, (∃ n, J n x1 x3 V) ∧ ∀ (n : Nat) (x1 : Int64) (x3 : Int32) (V : VS), J n x1 x3 V → wk_X10_digest_79 ks post (fun x1 x3 V => ∃ n', n' < n ∧ J n' x1 x3 V) x1 x3 V
def wk_X10_digest_48 (ks : List KY) (post : Int64 → VS → Prop) (B48 : Int64 → Int32 → VS → Prop) (x4 : Int32) (x1 : Int64) (x5 : Int32) (V : VS) : Prop := ((x4 ≤ x5 → (wl_X10_digest_79 ks post x1 0 V)) ∧ (¬ (x4 ≤ x5) → ((18, 0, 0) ∈ ks ∧ vp_in x5 7 ∧ ∀ y55 : Int32, y55 = V 18 0 0 0 x5.toNatClampNeg → ∀ y56 : Int64, y56 = (x1 * 31) + y55.toInt64 → ∀ y57 : Int32, y57 = x5 + 1 → B48 y56 y57 V)))
def wl_X10_digest_48 (ks : List KY) (post : Int64 → VS → Prop) (x4 : Int32) (x1 : Int64) (x5 : Int32) (V : VS) : Prop := ∃ J : Nat → Int64 → Int32 → VS → Prop, (∃ n, J n x1 x5 V) ∧ ∀ (n : Nat) (x1 : Int64) (x5 : Int32) (V : VS), J n x1 x5 V → wk_X10_digest_48 ks post (fun x1 x5 V => ∃ n', n' < n ∧ J n' x1 x5 V) x4 x1 x5 V
def wk_X10_digest_11 (ks : List KY) (post : Int64 → VS → Prop) (B11 : Int64 → Int32 → VS → Prop) (x1 : Int64) (x3 : Int32) (V : VS) : Prop := (((10 : Int32) ≤ x3 → ((15, 0, 0) ∈ ks ∧ (18, 0, 0) ∈ ks ∧ wl_X10_digest_48 ks post 7 x1 0 V)) ∧ (¬ ((10 : Int32) ≤ x3) → ((15, 0, 0) ∈ ks ∧ wp_X10_counted ks x3 V (fun r63 V61 => (∀ y64 : Int64, y64 = (x1 * 31) + r63.toInt64 → ∀ y65 : Int32, y65 = x3 + 1 → B11 y64 y65 V61)))))
def wl_X10_digest_11 (ks : List KY) (post : Int64 → VS → Prop) (x1 : Int64) (x3 : Int32) (V : VS) : Prop := ∃ J : Nat → Int64 → Int32 → VS → Prop, (∃ n, n ≤ 10 ∧ J n x1 x3 V) ∧ ∀ (n : Nat) (x1 : Int64) (x3 : Int32) (V : VS), J n x1 x3 V → wk_X10_digest_11 ks post (fun x1 x3 V => ∃ n', n' < n ∧ J n' x1 x3 V) x1 x3 V
def wp_X10_digest (ks : List KY) (V : VS) (post : Int64 → VS → Prop) : Prop := ((15, 0, 0) ∈ ks ∧ ∀ V68 : VS, V68 = vup V 15 0 0 0 0 0 → wl_X10_digest_11 ks post 607 0 V68)
set_option maxHeartbeats 4000000 in
set_option maxRecDepth 100000 in
theorem c_X10_digest (l : Launch) (G : GG) (ks : List KY) (ad : AD) (V : VS) (post : Int64 → VS → Prop) (h : wp_X10_digest ks V post) (sz : Nat) : Met l yX10_digest (ws_ yX10_digest cX10_digest 7 (some .long)) ({ frames := 2, cells := 211, slots := 1510, locals := 47 }) (mPc [.ref (ad 15 0 0)] G ks ad V sz) (mQl post G ks ad sz) 211 1510 (mA ks ad sz) := by
  refine g_met (own := RX10) (by decide) rfl (Nat.le_of_ble_eq_true rfl) ?_
  intro p e s m args below meth c ls hC hsz hr hlk hin hS ha hl
  have hl : lv_has ls 7 [(0, .ref (ad 15 0 0))] := hl
  unfold wp_X10_digest at h
  have kT301 : ∀ (x1 : Int64) (x3 : Int32) (V : VS) (H : Heap) (locs : List Loc) (ls : Array Slot), wl_X10_digest_301 ks post x1 x3 V → ST G ks ad V (mA ks ad sz) s.heap H locs → lv_has ls 7 [(0, .ref (ad 15 0 0)), (1, .long x1), (3, .int x3)] → W p l e ({ frames := 2, cells := 211, slots := 1510, locals := 47 } : Room) s m args below meth c H locs 211 1510 (MQ below (mQl post G ks ad sz) args s 211 1510 (mA ks ad sz)) (F0 m 301 ls []) := by
    intro x1 x3 V H locs ls h hS hl
    obtain ⟨J, ⟨n, hJ⟩, hb⟩ := h
    induction n using Nat.strongRecOn generalizing x1 x3 V H locs ls with
    | _ n ih =>
      have h := hb n x1 x3 V hJ
      obtain ⟨B301, eB⟩ : ∃ z : Int64 → Int32 → VS → Prop, z = (fun x1 x3 V => ∃ n', n' < n ∧ J n' x1 x3 V) := ⟨_, rfl⟩
      rw [← eB] at h
      have kB301 : ∀ (x1 : Int64) (x3 : Int32) (V : VS) (H : Heap) (locs : List Loc) (ls : Array Slot), B301 x1 x3 V → ST G ks ad V (mA ks ad sz) s.heap H locs → lv_has ls 7 [(0, .ref (ad 15 0 0)), (1, .long x1), (3, .int x3)] → W p l e ({ frames := 2, cells := 211, slots := 1510, locals := 47 } : Room) s m args below meth c H locs 211 1510 (MQ below (mQl post G ks ad sz) args s 211 1510 (mA ks ad sz)) (F0 m 301 ls []) := by
        intro x1 x3 V H locs ls h hS hl
        rw [eB] at h
        obtain ⟨n', hn, hJ'⟩ := h
        exact ih n' hn _ _ _ _ _ _ hS hl hJ'
      clear ih hJ hb eB
      unfold wk_X10_digest_301 at h
      have kT312 : ∀ (x3 : Int32) (x1 : Int64) (x4 : Int32) (V : VS) (H : Heap) (locs : List Loc) (ls : Array Slot), wl_X10_digest_312 ks post B301 x3 x1 x4 V → ST G ks ad V (mA ks ad sz) s.heap H locs → lv_has ls 7 [(0, .ref (ad 15 0 0)), (1, .long x1), (3, .int x3), (4, .int x4)] → W p l e ({ frames := 2, cells := 211, slots := 1510, locals := 47 } : Room) s m args below meth c H locs 211 1510 (MQ below (mQl post G ks ad sz) args s 211 1510 (mA ks ad sz)) (F0 m 312 ls []) := by
        intro x3 x1 x4 V H locs ls h hS hl
        obtain ⟨J, ⟨n, hJ⟩, hb⟩ := h
        induction n using Nat.strongRecOn generalizing x1 x4 V H locs ls with
        | _ n ih =>
          have h := hb n x1 x4 V hJ
          obtain ⟨B312, eB⟩ : ∃ z : Int64 → Int32 → VS → Prop, z = (fun x1 x4 V => ∃ n', n' < n ∧ J n' x1 x4 V) := ⟨_, rfl⟩
          rw [← eB] at h
          have kB312 : ∀ (x1 : Int64) (x4 : Int32) (V : VS) (H : Heap) (locs : List Loc) (ls : Array Slot), B312 x1 x4 V → ST G ks ad V (mA ks ad sz) s.heap H locs → lv_has ls 7 [(0, .ref (ad 15 0 0)), (1, .long x1), (3, .int x3), (4, .int x4)] → W p l e ({ frames := 2, cells := 211, slots := 1510, locals := 47 } : Room) s m args below meth c H locs 211 1510 (MQ below (mQl post G ks ad sz) args s 211 1510 (mA ks ad sz)) (F0 m 312 ls []) := by
            intro x1 x4 V H locs ls h hS hl
            rw [eB] at h
            obtain ⟨n', hn, hJ'⟩ := h
            exact ih n' hn _ _ _ _ _ _ hS hl hJ'
          clear ih hJ hb eB
          unfold wk_X10_digest_312 at h
          refine lv_iload hC.1 hC.2.1 dX10_digest_312 (lv_at hl 3 rfl) ?_
          refine lv_bipush (v := 8) hC.1 hC.2.1 dX10_digest_314 (by decide) ?_
          refine lv_icmp_ge (tgt := 340) hC.1 hC.2.1 dX10_digest_316 (by decide) (fun c7 => ?_) (fun c7 => ?_)
          · have h := h.1 c7
            obtain ⟨y1, ey1⟩ : ∃ z : Int32, z = x3 + 1 := ⟨_, rfl⟩
            have h := h y1 ey1
            refine lv_iinc (v := y1) (lv' := [(3, .int y1), (0, .ref (ad 15 0 0)), (1, .long x1), (4, .int x4)]) hC.1 hC.2.1 dX10_digest_340 hl (k := 2) rfl (by rw [ey1]; rfl) (by decide) rfl (fun ls hl => ?_)
            refine lv_goto (tgt := 301) hC.1 hC.2.1 dX10_digest_343 (by decide) ?_
            exact kB301 _ _ _ _ _ _ h hS (lv_sub hl [1, 2, 0] rfl)
          · have h := h.2 c7
            refine lv_lload_n hC.1 hC.2.1 dX10_digest_319 rfl (lv_at hl 1 rfl) ?_
            refine lv_ldc2 hC.1 hC.2.1 hC.2.2.2.1 (hC.2.2.2.2.1 _ wq_1297) dX10_digest_320 ?_
            refine lv_lmul hC.1 hC.2.1 dX10_digest_323 ?_
            refine lv_aload_n hC.1 hC.2.1 dX10_digest_324 rfl (lv_at hl 0 rfl) ?_
            refine lv_iload_n hC.1 hC.2.1 dX10_digest_325 rfl (lv_at hl 2 rfl) ?_
            refine lv_iload hC.1 hC.2.1 dX10_digest_326 (lv_at hl 3 rfl) ?_
            obtain ⟨hk3, h⟩ := h
            refine g_calli0 hS (g_runV (n := 2) (rest := [.long (x1 * 31)]) (As := [.int x3, .int x4]) (C := RX10) (T := TX10) (N := 13) hC hS hk3 rfl rfl (c_X10_readerTold l G ks ad x3 x4 V _ h _) (gI wq_1206 wq_1208 wq_31 wq_46 wq_1209) rfl ⟨⟨by decide +kernel, by decide +kernel, by decide +kernel⟩, rfl, rfl, Nat.le_of_ble_eq_true rfl, Nat.le_of_ble_eq_true rfl⟩ rfl hl rfl (Nat.le_of_ble_eq_true rfl) dX10_digest_328 ⟨by show 211 + 0 ≤ 211; omega, by show 1510 + 0 ≤ 1510; omega⟩) (fun r4 V2 H locs h hS => ?_)
            refine lv_i2l hC.1 hC.2.1 dX10_digest_331 rfl ?_
            refine lv_ladd hC.1 hC.2.1 dX10_digest_332 ?_
            refine lv_topl (fun y5 ey5 => ?_)
            have h := h y5 ey5
            refine lv_lstore_n (lv' := [(1, .long y5), (0, .ref (ad 15 0 0)), (3, .int x3), (4, .int x4)]) hC.1 hC.2.1 dX10_digest_333 rfl hl (by decide) rfl (fun ls hl => ?_)
            obtain ⟨y6, ey6⟩ : ∃ z : Int32, z = x4 + 1 := ⟨_, rfl⟩
            have h := h y6 ey6
            refine lv_iinc (v := y6) (lv' := [(4, .int y6), (1, .long y5), (0, .ref (ad 15 0 0)), (3, .int x3)]) hC.1 hC.2.1 dX10_digest_334 hl (k := 3) rfl (by rw [ey6]; rfl) (by decide) rfl (fun ls hl => ?_)
            refine lv_goto (tgt := 312) hC.1 hC.2.1 dX10_digest_337 (by decide) ?_
            exact kB312 _ _ _ _ _ _ h hS (lv_sub hl [2, 1, 3, 0] rfl)
      refine lv_iload_n hC.1 hC.2.1 dX10_digest_301 rfl (lv_at hl 2 rfl) ?_
      refine lv_aload_n hC.1 hC.2.1 dX10_digest_302 rfl (lv_at hl 0 rfl) ?_
      obtain ⟨hk8, h⟩ := h
      refine gf_15_8 hC hS hk8 wq_1059 dX10_digest_303 ?_
      refine lv_icmp_ge (tgt := 346) hC.1 hC.2.1 dX10_digest_306 (by decide) (fun c9 => ?_) (fun c9 => ?_)
      · have h := h.1 c9
        refine lv_lload_n hC.1 hC.2.1 dX10_digest_346 rfl (lv_at hl 1 rfl) ?_
        refine W.widen (k := 211) (n := 1510) (by omega) (by omega) ?_
        exact g_lret hC hr hlk hS h dX10_digest_347
      · have h := h.2 c9
        refine lv_iconst (v := 0) hC.1 hC.2.1 dX10_digest_309 (by decide) ?_
        refine lv_istore (lv' := [(4, .int 0), (0, .ref (ad 15 0 0)), (1, .long x1), (3, .int x3)]) hC.1 hC.2.1 dX10_digest_310 hl (by decide) rfl (fun ls hl => ?_)
        exact kT312 _ _ _ _ _ _ _ h hS (lv_sub hl [1, 2, 3, 0] rfl)
  have kT208 : ∀ (x1 : Int64) (x3 : Int32) (V : VS) (H : Heap) (locs : List Loc) (ls : Array Slot), wl_X10_digest_208 ks post x1 x3 V → ST G ks ad V (mA ks ad sz) s.heap H locs → lv_has ls 7 [(0, .ref (ad 15 0 0)), (1, .long x1), (3, .int x3)] → W p l e ({ frames := 2, cells := 211, slots := 1510, locals := 47 } : Room) s m args below meth c H locs 11 110 (MQ below (mQl post G ks ad sz) args s 211 1510 (mA ks ad sz)) (F0 m 208 ls []) := by
    intro x1 x3 V H locs ls h hS hl
    obtain ⟨J, ⟨f208, hf208, hJ⟩, hb⟩ := h
    refine W.widen (k := (11 + (24 - f208) * 8)) (n := (110 + (24 - f208) * 56)) (by omega) (by omega) ?_
    induction f208 using Nat.strongRecOn generalizing x1 x3 V H locs ls with
    | _ f208 ih =>
      have h := hb f208 x1 x3 V hJ
      obtain ⟨B208, eB⟩ : ∃ z : Int64 → Int32 → VS → Prop, z = (fun x1 x3 V => ∃ n', n' < f208 ∧ J n' x1 x3 V) := ⟨_, rfl⟩
      rw [← eB] at h
      have kB208 : ∀ (x1 : Int64) (x3 : Int32) (V : VS) (H : Heap) (locs : List Loc) (ls : Array Slot), B208 x1 x3 V → ST G ks ad V (mA ks ad sz) s.heap H locs → lv_has ls 7 [(0, .ref (ad 15 0 0)), (1, .long x1), (3, .int x3)] → W p l e ({ frames := 2, cells := 211, slots := 1510, locals := 47 } : Room) s m args below meth c H locs (11 + (24 - f208) * 8 + 8) (110 + (24 - f208) * 56 + 56) (MQ below (mQl post G ks ad sz) args s 211 1510 (mA ks ad sz)) (F0 m 208 ls []) := by
        intro x1 x3 V H locs ls h hS hl
        rw [eB] at h
        obtain ⟨n', hn, hJ'⟩ := h
        refine W.widen (k := (11 + (24 - n') * 8)) (n := (110 + (24 - n') * 56)) (by omega) (by omega) ?_
        exact ih n' hn _ _ _ _ _ _ hS hl (by omega) hJ'
      clear ih hJ hb eB
      unfold wk_X10_digest_208 at h
      have kT250 : ∀ (x3 : Int32) (x1 : Int64) (x4 : Int32) (V : VS) (H : Heap) (locs : List Loc) (ls : Array Slot), wl_X10_digest_250 ks post B208 x3 x1 x4 V → ST G ks ad V (mA ks ad sz) s.heap H locs → lv_has ls 7 [(0, .ref (ad 15 0 0)), (1, .long x1), (3, .int x3), (4, .int x4)] → W p l e ({ frames := 2, cells := 211, slots := 1510, locals := 47 } : Room) s m args below meth c H locs (11 + (24 - f208) * 8 + 8) (110 + (24 - f208) * 56 + 56) (MQ below (mQl post G ks ad sz) args s 211 1510 (mA ks ad sz)) (F0 m 250 ls []) := by
        intro x3 x1 x4 V H locs ls h hS hl
        obtain ⟨J, ⟨n, hJ⟩, hb⟩ := h
        induction n using Nat.strongRecOn generalizing x1 x4 V H locs ls with
        | _ n ih =>
          have h := hb n x1 x4 V hJ
          obtain ⟨B250, eB⟩ : ∃ z : Int64 → Int32 → VS → Prop, z = (fun x1 x4 V => ∃ n', n' < n ∧ J n' x1 x4 V) := ⟨_, rfl⟩
          rw [← eB] at h
          have kB250 : ∀ (x1 : Int64) (x4 : Int32) (V : VS) (H : Heap) (locs : List Loc) (ls : Array Slot), B250 x1 x4 V → ST G ks ad V (mA ks ad sz) s.heap H locs → lv_has ls 7 [(0, .ref (ad 15 0 0)), (1, .long x1), (3, .int x3), (4, .int x4)] → W p l e ({ frames := 2, cells := 211, slots := 1510, locals := 47 } : Room) s m args below meth c H locs (11 + (24 - f208) * 8 + 8) (110 + (24 - f208) * 56 + 56) (MQ below (mQl post G ks ad sz) args s 211 1510 (mA ks ad sz)) (F0 m 250 ls []) := by
            intro x1 x4 V H locs ls h hS hl
            rw [eB] at h
            obtain ⟨n', hn, hJ'⟩ := h
            exact ih n' hn _ _ _ _ _ _ hS hl hJ'
          clear ih hJ hb eB
          unfold wk_X10_digest_250 at h
          refine lv_iload hC.1 hC.2.1 dX10_digest_250 (lv_at hl 3 rfl) ?_
          refine lv_aload_n hC.1 hC.2.1 dX10_digest_252 rfl (lv_at hl 0 rfl) ?_
          obtain ⟨hk10, h⟩ := h
          refine gf_15_11 hC hS hk10 wq_1065 dX10_digest_253 ?_
          obtain ⟨hk11, h⟩ := h
          refine gn_16_12 hC hS hk11 wq_1001 dX10_digest_256 ?_
          refine lv_iload_n hC.1 hC.2.1 dX10_digest_259 rfl (lv_at hl 2 rfl) ?_
          obtain ⟨hk12, h⟩ := h
          obtain ⟨hx13, h⟩ := h
          refine g_iald hC hS hk12 (by decide) hx13 dX10_digest_260 ?_
          refine lv_icmp_ge (tgt := 293) hC.1 hC.2.1 dX10_digest_261 (by decide) (fun c19 => ?_) (fun c19 => ?_)
          · have h := h.1 c19
            obtain ⟨y14, ey14⟩ : ∃ z : Int32, z = x3 + 1 := ⟨_, rfl⟩
            have h := h y14 ey14
            refine lv_iinc (v := y14) (lv' := [(3, .int y14), (0, .ref (ad 15 0 0)), (1, .long x1), (4, .int x4)]) hC.1 hC.2.1 dX10_digest_293 hl (k := 2) rfl (by rw [ey14]; rfl) (by decide) rfl (fun ls hl => ?_)
            refine lv_goto (tgt := 208) hC.1 hC.2.1 dX10_digest_296 (by decide) ?_
            exact kB208 _ _ _ _ _ _ h hS (lv_sub hl [1, 2, 0] rfl)
          · have h := h.2 c19
            refine lv_lload_n hC.1 hC.2.1 dX10_digest_264 rfl (lv_at hl 1 rfl) ?_
            refine lv_ldc2 hC.1 hC.2.1 hC.2.2.2.1 (hC.2.2.2.2.1 _ wq_1297) dX10_digest_265 ?_
            refine lv_lmul hC.1 hC.2.1 dX10_digest_268 ?_
            refine lv_aload_n hC.1 hC.2.1 dX10_digest_269 rfl (lv_at hl 0 rfl) ?_
            refine gf_15_11 hC hS hk10 wq_1065 dX10_digest_270 ?_
            refine gn_16_11 hC hS hk11 wq_999 dX10_digest_273 ?_
            refine lv_bipush (v := 10) hC.1 hC.2.1 dX10_digest_276 (by decide) ?_
            refine lv_iload_n hC.1 hC.2.1 dX10_digest_278 rfl (lv_at hl 2 rfl) ?_
            refine lv_imul hC.1 hC.2.1 dX10_digest_279 ?_
            refine lv_iload hC.1 hC.2.1 dX10_digest_280 (lv_at hl 3 rfl) ?_
            refine lv_iadd hC.1 hC.2.1 dX10_digest_282 ?_
            obtain ⟨hk15, h⟩ := h
            obtain ⟨hx16, h⟩ := h
            refine g_iald hC hS hk15 (by decide) hx16 dX10_digest_283 ?_
            refine lv_i2l hC.1 hC.2.1 dX10_digest_284 rfl ?_
            refine lv_ladd hC.1 hC.2.1 dX10_digest_285 ?_
            refine lv_topl (fun y17 ey17 => ?_)
            have h := h y17 ey17
            refine lv_lstore_n (lv' := [(1, .long y17), (0, .ref (ad 15 0 0)), (3, .int x3), (4, .int x4)]) hC.1 hC.2.1 dX10_digest_286 rfl hl (by decide) rfl (fun ls hl => ?_)
            obtain ⟨y18, ey18⟩ : ∃ z : Int32, z = x4 + 1 := ⟨_, rfl⟩
            have h := h y18 ey18
            refine lv_iinc (v := y18) (lv' := [(4, .int y18), (1, .long y17), (0, .ref (ad 15 0 0)), (3, .int x3)]) hC.1 hC.2.1 dX10_digest_287 hl (k := 3) rfl (by rw [ey18]; rfl) (by decide) rfl (fun ls hl => ?_)
            refine lv_goto (tgt := 250) hC.1 hC.2.1 dX10_digest_290 (by decide) ?_
            exact kB250 _ _ _ _ _ _ h hS (lv_sub hl [2, 1, 3, 0] rfl)
      have kT219 : ∀ (x3 : Int32) (x1 : Int64) (x4 : Int32) (V : VS) (H : Heap) (locs : List Loc) (ls : Array Slot), wl_X10_digest_219 ks post B208 x3 x1 x4 V → ST G ks ad V (mA ks ad sz) s.heap H locs → lv_has ls 7 [(0, .ref (ad 15 0 0)), (1, .long x1), (3, .int x3), (4, .int x4)] → W p l e ({ frames := 2, cells := 211, slots := 1510, locals := 47 } : Room) s m args below meth c H locs (11 + (24 - f208) * 8) (110 + (24 - f208) * 56) (MQ below (mQl post G ks ad sz) args s 211 1510 (mA ks ad sz)) (F0 m 219 ls []) := by
        intro x3 x1 x4 V H locs ls h hS hl
        obtain ⟨J, ⟨f219, hf219, hJ⟩, hb⟩ := h
        refine W.widen (k := (11 + (24 - f208) * 8 + (7 - f219))) (n := (110 + (24 - f208) * 56 + (7 - f219) * 7)) (by omega) (by omega) ?_
        induction f219 using Nat.strongRecOn generalizing x1 x4 V H locs ls with
        | _ f219 ih =>
          have h := hb f219 x1 x4 V hJ
          obtain ⟨B219, eB⟩ : ∃ z : Int64 → Int32 → VS → Prop, z = (fun x1 x4 V => ∃ n', n' < f219 ∧ J n' x1 x4 V) := ⟨_, rfl⟩
          rw [← eB] at h
          have kB219 : ∀ (x1 : Int64) (x4 : Int32) (V : VS) (H : Heap) (locs : List Loc) (ls : Array Slot), B219 x1 x4 V → ST G ks ad V (mA ks ad sz) s.heap H locs → lv_has ls 7 [(0, .ref (ad 15 0 0)), (1, .long x1), (3, .int x3), (4, .int x4)] → W p l e ({ frames := 2, cells := 211, slots := 1510, locals := 47 } : Room) s m args below meth c H locs (11 + (24 - f208) * 8 + (7 - f219) + 1) (110 + (24 - f208) * 56 + (7 - f219) * 7 + 7) (MQ below (mQl post G ks ad sz) args s 211 1510 (mA ks ad sz)) (F0 m 219 ls []) := by
            intro x1 x4 V H locs ls h hS hl
            rw [eB] at h
            obtain ⟨n', hn, hJ'⟩ := h
            refine W.widen (k := (11 + (24 - f208) * 8 + (7 - n'))) (n := (110 + (24 - f208) * 56 + (7 - n') * 7)) (by omega) (by omega) ?_
            exact ih n' hn _ _ _ _ _ _ hS hl (by omega) hJ'
          clear ih hJ hb eB
          unfold wk_X10_digest_219 at h
          refine lv_iload hC.1 hC.2.1 dX10_digest_219 (lv_at hl 3 rfl) ?_
          refine lv_bipush (v := 7) hC.1 hC.2.1 dX10_digest_221 (by decide) ?_
          refine lv_icmp_ge (tgt := 247) hC.1 hC.2.1 dX10_digest_223 (by decide) (fun c25 => ?_) (fun c25 => ?_)
          · have h := h.1 c25
            refine lv_iconst (v := 0) hC.1 hC.2.1 dX10_digest_247 (by decide) ?_
            refine lv_istore (lv' := [(4, .int 0), (0, .ref (ad 15 0 0)), (1, .long x1), (3, .int x3)]) hC.1 hC.2.1 dX10_digest_248 hl (by decide) rfl (fun ls hl => ?_)
            refine W.widen (k := (11 + (24 - f208) * 8 + 8)) (n := (110 + (24 - f208) * 56 + 56)) (by omega) (by omega) ?_
            exact kT250 _ _ _ _ _ _ _ h hS (lv_sub hl [1, 2, 3, 0] rfl)
          · have h := h.2 c25
            refine lv_lload_n hC.1 hC.2.1 dX10_digest_226 rfl (lv_at hl 1 rfl) ?_
            refine lv_ldc2 hC.1 hC.2.1 hC.2.2.2.1 (hC.2.2.2.2.1 _ wq_1297) dX10_digest_227 ?_
            refine lv_lmul hC.1 hC.2.1 dX10_digest_230 ?_
            refine lv_aload_n hC.1 hC.2.1 dX10_digest_231 rfl (lv_at hl 0 rfl) ?_
            refine lv_iload_n hC.1 hC.2.1 dX10_digest_232 rfl (lv_at hl 2 rfl) ?_
            refine lv_iload hC.1 hC.2.1 dX10_digest_233 (lv_at hl 3 rfl) ?_
            obtain ⟨hk21, h⟩ := h
            refine g_calli hS (g_runV (n := 2) (rest := [.long (x1 * 31)]) (As := [.int x3, .int x4]) (C := RX10) (T := TX10) (N := 13) hC hS hk21 rfl rfl (c_X10_bookTold l G ks ad x3 x4 V _ h _) (gI wq_1198 wq_1200 wq_30 wq_46 wq_1201) rfl ⟨⟨by decide +kernel, by decide +kernel, by decide +kernel⟩, rfl, rfl, Nat.le_of_ble_eq_true rfl, Nat.le_of_ble_eq_true rfl⟩ rfl hl rfl (Nat.le_of_ble_eq_true rfl) dX10_digest_235 ⟨by show (11 + (24 - f208) * 8 + (7 - f219)) + 1 ≤ 211; omega, by show (110 + (24 - f208) * 56 + (7 - f219) * 7) + 7 ≤ 1510; omega⟩) (fun r22 V20 H locs h hS => ?_)
            refine lv_i2l hC.1 hC.2.1 dX10_digest_238 rfl ?_
            refine lv_ladd hC.1 hC.2.1 dX10_digest_239 ?_
            refine lv_topl (fun y23 ey23 => ?_)
            have h := h y23 ey23
            refine lv_lstore_n (lv' := [(1, .long y23), (0, .ref (ad 15 0 0)), (3, .int x3), (4, .int x4)]) hC.1 hC.2.1 dX10_digest_240 rfl hl (by decide) rfl (fun ls hl => ?_)
            obtain ⟨y24, ey24⟩ : ∃ z : Int32, z = x4 + 1 := ⟨_, rfl⟩
            have h := h y24 ey24
            refine lv_iinc (v := y24) (lv' := [(4, .int y24), (1, .long y23), (0, .ref (ad 15 0 0)), (3, .int x3)]) hC.1 hC.2.1 dX10_digest_241 hl (k := 3) rfl (by rw [ey24]; rfl) (by decide) rfl (fun ls hl => ?_)
            refine lv_goto (tgt := 219) hC.1 hC.2.1 dX10_digest_244 (by decide) ?_
            refine W.widen (k := (11 + (24 - f208) * 8 + (7 - f219) + 1)) (n := (110 + (24 - f208) * 56 + (7 - f219) * 7 + 7)) (by omega) (by omega) ?_
            exact kB219 _ _ _ _ _ _ h hS (lv_sub hl [2, 1, 3, 0] rfl)
      refine lv_iload_n hC.1 hC.2.1 dX10_digest_208 rfl (lv_at hl 2 rfl) ?_
      refine lv_aload_n hC.1 hC.2.1 dX10_digest_209 rfl (lv_at hl 0 rfl) ?_
      obtain ⟨hk26, h⟩ := h
      refine gf_15_6 hC hS hk26 wq_1055 dX10_digest_210 ?_
      refine lv_icmp_ge (tgt := 299) hC.1 hC.2.1 dX10_digest_213 (by decide) (fun c27 => ?_) (fun c27 => ?_)
      · have h := h.1 c27
        refine lv_iconst (v := 0) hC.1 hC.2.1 dX10_digest_299 (by decide) ?_
        refine lv_istore_n (lv' := [(3, .int 0), (0, .ref (ad 15 0 0)), (1, .long x1)]) hC.1 hC.2.1 dX10_digest_300 rfl hl (by decide) rfl (fun ls hl => ?_)
        refine W.widen (k := 211) (n := 1510) (by omega) (by omega) ?_
        exact kT301 _ _ _ _ _ _ h hS (lv_sub hl [1, 2, 0] rfl)
      · have h := h.2 c27
        refine lv_iconst (v := 0) hC.1 hC.2.1 dX10_digest_216 (by decide) ?_
        refine lv_istore (lv' := [(4, .int 0), (0, .ref (ad 15 0 0)), (1, .long x1), (3, .int x3)]) hC.1 hC.2.1 dX10_digest_217 hl (by decide) rfl (fun ls hl => ?_)
        exact kT219 _ _ _ _ _ _ _ h hS (lv_sub hl [1, 2, 3, 0] rfl)
  have kT161 : ∀ (x1 : Int64) (x3 : Int32) (V : VS) (H : Heap) (locs : List Loc) (ls : Array Slot), wl_X10_digest_161 ks post x1 x3 V → ST G ks ad V (mA ks ad sz) s.heap H locs → lv_has ls 7 [(0, .ref (ad 15 0 0)), (1, .long x1), (3, .int x3)] → W p l e ({ frames := 2, cells := 211, slots := 1510, locals := 47 } : Room) s m args below meth c H locs 11 110 (MQ below (mQl post G ks ad sz) args s 211 1510 (mA ks ad sz)) (F0 m 161 ls []) := by
    intro x1 x3 V H locs ls h hS hl
    obtain ⟨J, ⟨n, hJ⟩, hb⟩ := h
    induction n using Nat.strongRecOn generalizing x1 x3 V H locs ls with
    | _ n ih =>
      have h := hb n x1 x3 V hJ
      obtain ⟨B161, eB⟩ : ∃ z : Int64 → Int32 → VS → Prop, z = (fun x1 x3 V => ∃ n', n' < n ∧ J n' x1 x3 V) := ⟨_, rfl⟩
      rw [← eB] at h
      have kB161 : ∀ (x1 : Int64) (x3 : Int32) (V : VS) (H : Heap) (locs : List Loc) (ls : Array Slot), B161 x1 x3 V → ST G ks ad V (mA ks ad sz) s.heap H locs → lv_has ls 7 [(0, .ref (ad 15 0 0)), (1, .long x1), (3, .int x3)] → W p l e ({ frames := 2, cells := 211, slots := 1510, locals := 47 } : Room) s m args below meth c H locs 11 110 (MQ below (mQl post G ks ad sz) args s 211 1510 (mA ks ad sz)) (F0 m 161 ls []) := by
        intro x1 x3 V H locs ls h hS hl
        rw [eB] at h
        obtain ⟨n', hn, hJ'⟩ := h
        exact ih n' hn _ _ _ _ _ _ hS hl hJ'
      clear ih hJ hb eB
      unfold wk_X10_digest_161 at h
      have kT172 : ∀ (x3 : Int32) (x1 : Int64) (x4 : Int32) (V : VS) (H : Heap) (locs : List Loc) (ls : Array Slot), wl_X10_digest_172 ks post B161 x3 x1 x4 V → ST G ks ad V (mA ks ad sz) s.heap H locs → lv_has ls 7 [(0, .ref (ad 15 0 0)), (1, .long x1), (3, .int x3), (4, .int x4)] → W p l e ({ frames := 2, cells := 211, slots := 1510, locals := 47 } : Room) s m args below meth c H locs 11 110 (MQ below (mQl post G ks ad sz) args s 211 1510 (mA ks ad sz)) (F0 m 172 ls []) := by
        intro x3 x1 x4 V H locs ls h hS hl
        obtain ⟨J, ⟨n, hJ⟩, hb⟩ := h
        induction n using Nat.strongRecOn generalizing x1 x4 V H locs ls with
        | _ n ih =>
          have h := hb n x1 x4 V hJ
          obtain ⟨B172, eB⟩ : ∃ z : Int64 → Int32 → VS → Prop, z = (fun x1 x4 V => ∃ n', n' < n ∧ J n' x1 x4 V) := ⟨_, rfl⟩
          rw [← eB] at h
          have kB172 : ∀ (x1 : Int64) (x4 : Int32) (V : VS) (H : Heap) (locs : List Loc) (ls : Array Slot), B172 x1 x4 V → ST G ks ad V (mA ks ad sz) s.heap H locs → lv_has ls 7 [(0, .ref (ad 15 0 0)), (1, .long x1), (3, .int x3), (4, .int x4)] → W p l e ({ frames := 2, cells := 211, slots := 1510, locals := 47 } : Room) s m args below meth c H locs 11 110 (MQ below (mQl post G ks ad sz) args s 211 1510 (mA ks ad sz)) (F0 m 172 ls []) := by
            intro x1 x4 V H locs ls h hS hl
            rw [eB] at h
            obtain ⟨n', hn, hJ'⟩ := h
            exact ih n' hn _ _ _ _ _ _ hS hl hJ'
          clear ih hJ hb eB
          unfold wk_X10_digest_172 at h
          refine lv_iload hC.1 hC.2.1 dX10_digest_172 (lv_at hl 3 rfl) ?_
          refine lv_bipush (v := 6) hC.1 hC.2.1 dX10_digest_174 (by decide) ?_
          refine lv_icmp_ge (tgt := 200) hC.1 hC.2.1 dX10_digest_176 (by decide) (fun c34 => ?_) (fun c34 => ?_)
          · have h := h.1 c34
            obtain ⟨y28, ey28⟩ : ∃ z : Int32, z = x3 + 1 := ⟨_, rfl⟩
            have h := h y28 ey28
            refine lv_iinc (v := y28) (lv' := [(3, .int y28), (0, .ref (ad 15 0 0)), (1, .long x1), (4, .int x4)]) hC.1 hC.2.1 dX10_digest_200 hl (k := 2) rfl (by rw [ey28]; rfl) (by decide) rfl (fun ls hl => ?_)
            refine lv_goto (tgt := 161) hC.1 hC.2.1 dX10_digest_203 (by decide) ?_
            exact kB161 _ _ _ _ _ _ h hS (lv_sub hl [1, 2, 0] rfl)
          · have h := h.2 c34
            refine lv_lload_n hC.1 hC.2.1 dX10_digest_179 rfl (lv_at hl 1 rfl) ?_
            refine lv_ldc2 hC.1 hC.2.1 hC.2.2.2.1 (hC.2.2.2.2.1 _ wq_1297) dX10_digest_180 ?_
            refine lv_lmul hC.1 hC.2.1 dX10_digest_183 ?_
            refine lv_aload_n hC.1 hC.2.1 dX10_digest_184 rfl (lv_at hl 0 rfl) ?_
            refine lv_iload_n hC.1 hC.2.1 dX10_digest_185 rfl (lv_at hl 2 rfl) ?_
            refine lv_iload hC.1 hC.2.1 dX10_digest_186 (lv_at hl 3 rfl) ?_
            obtain ⟨hk30, h⟩ := h
            refine g_calli0 hS (g_runV (n := 2) (rest := [.long (x1 * 31)]) (As := [.int x3, .int x4]) (C := RX10) (T := TX10) (N := 13) hC hS hk30 rfl rfl (c_X10_laneTold l G ks ad x3 x4 V _ h _) (gI wq_1139 wq_1141 wq_26 wq_46 wq_1142) rfl ⟨⟨by decide +kernel, by decide +kernel, by decide +kernel⟩, rfl, rfl, Nat.le_of_ble_eq_true rfl, Nat.le_of_ble_eq_true rfl⟩ rfl hl rfl (Nat.le_of_ble_eq_true rfl) dX10_digest_188 ⟨by show 11 + 0 ≤ 211; omega, by show 110 + 0 ≤ 1510; omega⟩) (fun r31 V29 H locs h hS => ?_)
            refine lv_i2l hC.1 hC.2.1 dX10_digest_191 rfl ?_
            refine lv_ladd hC.1 hC.2.1 dX10_digest_192 ?_
            refine lv_topl (fun y32 ey32 => ?_)
            have h := h y32 ey32
            refine lv_lstore_n (lv' := [(1, .long y32), (0, .ref (ad 15 0 0)), (3, .int x3), (4, .int x4)]) hC.1 hC.2.1 dX10_digest_193 rfl hl (by decide) rfl (fun ls hl => ?_)
            obtain ⟨y33, ey33⟩ : ∃ z : Int32, z = x4 + 1 := ⟨_, rfl⟩
            have h := h y33 ey33
            refine lv_iinc (v := y33) (lv' := [(4, .int y33), (1, .long y32), (0, .ref (ad 15 0 0)), (3, .int x3)]) hC.1 hC.2.1 dX10_digest_194 hl (k := 3) rfl (by rw [ey33]; rfl) (by decide) rfl (fun ls hl => ?_)
            refine lv_goto (tgt := 172) hC.1 hC.2.1 dX10_digest_197 (by decide) ?_
            exact kB172 _ _ _ _ _ _ h hS (lv_sub hl [2, 1, 3, 0] rfl)
      refine lv_iload_n hC.1 hC.2.1 dX10_digest_161 rfl (lv_at hl 2 rfl) ?_
      refine lv_aload_n hC.1 hC.2.1 dX10_digest_162 rfl (lv_at hl 0 rfl) ?_
      obtain ⟨hk35, h⟩ := h
      refine gf_15_2 hC hS hk35 wq_1048 dX10_digest_163 ?_
      refine lv_icmp_ge (tgt := 206) hC.1 hC.2.1 dX10_digest_166 (by decide) (fun c36 => ?_) (fun c36 => ?_)
      · have h := h.1 c36
        refine lv_iconst (v := 0) hC.1 hC.2.1 dX10_digest_206 (by decide) ?_
        refine lv_istore_n (lv' := [(3, .int 0), (0, .ref (ad 15 0 0)), (1, .long x1)]) hC.1 hC.2.1 dX10_digest_207 rfl hl (by decide) rfl (fun ls hl => ?_)
        exact kT208 _ _ _ _ _ _ h hS (lv_sub hl [1, 2, 0] rfl)
      · have h := h.2 c36
        refine lv_iconst (v := 0) hC.1 hC.2.1 dX10_digest_169 (by decide) ?_
        refine lv_istore (lv' := [(4, .int 0), (0, .ref (ad 15 0 0)), (1, .long x1), (3, .int x3)]) hC.1 hC.2.1 dX10_digest_170 hl (by decide) rfl (fun ls hl => ?_)
        exact kT172 _ _ _ _ _ _ _ h hS (lv_sub hl [1, 2, 3, 0] rfl)
  have kT115 : ∀ (x1 : Int64) (x3 : Int32) (V : VS) (H : Heap) (locs : List Loc) (ls : Array Slot), wl_X10_digest_115 ks post x1 x3 V → ST G ks ad V (mA ks ad sz) s.heap H locs → lv_has ls 7 [(0, .ref (ad 15 0 0)), (1, .long x1), (3, .int x3)] → W p l e ({ frames := 2, cells := 211, slots := 1510, locals := 47 } : Room) s m args below meth c H locs 11 110 (MQ below (mQl post G ks ad sz) args s 211 1510 (mA ks ad sz)) (F0 m 115 ls []) := by
    intro x1 x3 V H locs ls h hS hl
    obtain ⟨J, ⟨n, hJ⟩, hb⟩ := h
    induction n using Nat.strongRecOn generalizing x1 x3 V H locs ls with
    | _ n ih =>
      have h := hb n x1 x3 V hJ
      obtain ⟨B115, eB⟩ : ∃ z : Int64 → Int32 → VS → Prop, z = (fun x1 x3 V => ∃ n', n' < n ∧ J n' x1 x3 V) := ⟨_, rfl⟩
      rw [← eB] at h
      have kB115 : ∀ (x1 : Int64) (x3 : Int32) (V : VS) (H : Heap) (locs : List Loc) (ls : Array Slot), B115 x1 x3 V → ST G ks ad V (mA ks ad sz) s.heap H locs → lv_has ls 7 [(0, .ref (ad 15 0 0)), (1, .long x1), (3, .int x3)] → W p l e ({ frames := 2, cells := 211, slots := 1510, locals := 47 } : Room) s m args below meth c H locs 11 110 (MQ below (mQl post G ks ad sz) args s 211 1510 (mA ks ad sz)) (F0 m 115 ls []) := by
        intro x1 x3 V H locs ls h hS hl
        rw [eB] at h
        obtain ⟨n', hn, hJ'⟩ := h
        exact ih n' hn _ _ _ _ _ _ hS hl hJ'
      clear ih hJ hb eB
      unfold wk_X10_digest_115 at h
      have kT126 : ∀ (x3 : Int32) (x1 : Int64) (x4 : Int32) (V : VS) (H : Heap) (locs : List Loc) (ls : Array Slot), wl_X10_digest_126 ks post B115 x3 x1 x4 V → ST G ks ad V (mA ks ad sz) s.heap H locs → lv_has ls 7 [(0, .ref (ad 15 0 0)), (1, .long x1), (3, .int x3), (4, .int x4)] → W p l e ({ frames := 2, cells := 211, slots := 1510, locals := 47 } : Room) s m args below meth c H locs 11 110 (MQ below (mQl post G ks ad sz) args s 211 1510 (mA ks ad sz)) (F0 m 126 ls []) := by
        intro x3 x1 x4 V H locs ls h hS hl
        obtain ⟨J, ⟨n, hJ⟩, hb⟩ := h
        induction n using Nat.strongRecOn generalizing x1 x4 V H locs ls with
        | _ n ih =>
          have h := hb n x1 x4 V hJ
          obtain ⟨B126, eB⟩ : ∃ z : Int64 → Int32 → VS → Prop, z = (fun x1 x4 V => ∃ n', n' < n ∧ J n' x1 x4 V) := ⟨_, rfl⟩
          rw [← eB] at h
          have kB126 : ∀ (x1 : Int64) (x4 : Int32) (V : VS) (H : Heap) (locs : List Loc) (ls : Array Slot), B126 x1 x4 V → ST G ks ad V (mA ks ad sz) s.heap H locs → lv_has ls 7 [(0, .ref (ad 15 0 0)), (1, .long x1), (3, .int x3), (4, .int x4)] → W p l e ({ frames := 2, cells := 211, slots := 1510, locals := 47 } : Room) s m args below meth c H locs 11 110 (MQ below (mQl post G ks ad sz) args s 211 1510 (mA ks ad sz)) (F0 m 126 ls []) := by
            intro x1 x4 V H locs ls h hS hl
            rw [eB] at h
            obtain ⟨n', hn, hJ'⟩ := h
            exact ih n' hn _ _ _ _ _ _ hS hl hJ'
          clear ih hJ hb eB
          unfold wk_X10_digest_126 at h
          refine lv_iload hC.1 hC.2.1 dX10_digest_126 (lv_at hl 3 rfl) ?_
          refine lv_iconst (v := 5) hC.1 hC.2.1 dX10_digest_128 (by decide) ?_
          refine lv_icmp_ge (tgt := 153) hC.1 hC.2.1 dX10_digest_129 (by decide) (fun c43 => ?_) (fun c43 => ?_)
          · have h := h.1 c43
            obtain ⟨y37, ey37⟩ : ∃ z : Int32, z = x3 + 1 := ⟨_, rfl⟩
            have h := h y37 ey37
            refine lv_iinc (v := y37) (lv' := [(3, .int y37), (0, .ref (ad 15 0 0)), (1, .long x1), (4, .int x4)]) hC.1 hC.2.1 dX10_digest_153 hl (k := 2) rfl (by rw [ey37]; rfl) (by decide) rfl (fun ls hl => ?_)
            refine lv_goto (tgt := 115) hC.1 hC.2.1 dX10_digest_156 (by decide) ?_
            exact kB115 _ _ _ _ _ _ h hS (lv_sub hl [1, 2, 0] rfl)
          · have h := h.2 c43
            refine lv_lload_n hC.1 hC.2.1 dX10_digest_132 rfl (lv_at hl 1 rfl) ?_
            refine lv_ldc2 hC.1 hC.2.1 hC.2.2.2.1 (hC.2.2.2.2.1 _ wq_1297) dX10_digest_133 ?_
            refine lv_lmul hC.1 hC.2.1 dX10_digest_136 ?_
            refine lv_aload_n hC.1 hC.2.1 dX10_digest_137 rfl (lv_at hl 0 rfl) ?_
            refine lv_iload_n hC.1 hC.2.1 dX10_digest_138 rfl (lv_at hl 2 rfl) ?_
            refine lv_iload hC.1 hC.2.1 dX10_digest_139 (lv_at hl 3 rfl) ?_
            obtain ⟨hk39, h⟩ := h
            refine g_calli0 hS (g_runV (n := 2) (rest := [.long (x1 * 31)]) (As := [.int x3, .int x4]) (C := RX10) (T := TX10) (N := 13) hC hS hk39 rfl rfl (c_X10_haltTold l G ks ad x3 x4 V _ h _) (gI wq_1131 wq_1133 wq_25 wq_46 wq_1134) rfl ⟨⟨by decide +kernel, by decide +kernel, by decide +kernel⟩, rfl, rfl, Nat.le_of_ble_eq_true rfl, Nat.le_of_ble_eq_true rfl⟩ rfl hl rfl (Nat.le_of_ble_eq_true rfl) dX10_digest_141 ⟨by show 11 + 0 ≤ 211; omega, by show 110 + 0 ≤ 1510; omega⟩) (fun r40 V38 H locs h hS => ?_)
            refine lv_i2l hC.1 hC.2.1 dX10_digest_144 rfl ?_
            refine lv_ladd hC.1 hC.2.1 dX10_digest_145 ?_
            refine lv_topl (fun y41 ey41 => ?_)
            have h := h y41 ey41
            refine lv_lstore_n (lv' := [(1, .long y41), (0, .ref (ad 15 0 0)), (3, .int x3), (4, .int x4)]) hC.1 hC.2.1 dX10_digest_146 rfl hl (by decide) rfl (fun ls hl => ?_)
            obtain ⟨y42, ey42⟩ : ∃ z : Int32, z = x4 + 1 := ⟨_, rfl⟩
            have h := h y42 ey42
            refine lv_iinc (v := y42) (lv' := [(4, .int y42), (1, .long y41), (0, .ref (ad 15 0 0)), (3, .int x3)]) hC.1 hC.2.1 dX10_digest_147 hl (k := 3) rfl (by rw [ey42]; rfl) (by decide) rfl (fun ls hl => ?_)
            refine lv_goto (tgt := 126) hC.1 hC.2.1 dX10_digest_150 (by decide) ?_
            exact kB126 _ _ _ _ _ _ h hS (lv_sub hl [2, 1, 3, 0] rfl)
      refine lv_iload_n hC.1 hC.2.1 dX10_digest_115 rfl (lv_at hl 2 rfl) ?_
      refine lv_aload_n hC.1 hC.2.1 dX10_digest_116 rfl (lv_at hl 0 rfl) ?_
      obtain ⟨hk44, h⟩ := h
      refine gf_15_1 hC hS hk44 wq_1045 dX10_digest_117 ?_
      refine lv_icmp_ge (tgt := 159) hC.1 hC.2.1 dX10_digest_120 (by decide) (fun c45 => ?_) (fun c45 => ?_)
      · have h := h.1 c45
        refine lv_iconst (v := 0) hC.1 hC.2.1 dX10_digest_159 (by decide) ?_
        refine lv_istore_n (lv' := [(3, .int 0), (0, .ref (ad 15 0 0)), (1, .long x1)]) hC.1 hC.2.1 dX10_digest_160 rfl hl (by decide) rfl (fun ls hl => ?_)
        exact kT161 _ _ _ _ _ _ h hS (lv_sub hl [1, 2, 0] rfl)
      · have h := h.2 c45
        refine lv_iconst (v := 0) hC.1 hC.2.1 dX10_digest_123 (by decide) ?_
        refine lv_istore (lv' := [(4, .int 0), (0, .ref (ad 15 0 0)), (1, .long x1), (3, .int x3)]) hC.1 hC.2.1 dX10_digest_124 hl (by decide) rfl (fun ls hl => ?_)
        exact kT126 _ _ _ _ _ _ _ h hS (lv_sub hl [1, 2, 3, 0] rfl)
  have kT79 : ∀ (x1 : Int64) (x3 : Int32) (V : VS) (H : Heap) (locs : List Loc) (ls : Array Slot), wl_X10_digest_79 ks post x1 x3 V → ST G ks ad V (mA ks ad sz) s.heap H locs → lv_has ls 7 [(0, .ref (ad 15 0 0)), (1, .long x1), (3, .int x3)] → W p l e ({ frames := 2, cells := 211, slots := 1510, locals := 47 } : Room) s m args below meth c H locs 11 110 (MQ below (mQl post G ks ad sz) args s 211 1510 (mA ks ad sz)) (F0 m 79 ls []) := by
    intro x1 x3 V H locs ls h hS hl
    obtain ⟨J, ⟨n, hJ⟩, hb⟩ := h
    induction n using Nat.strongRecOn generalizing x1 x3 V H locs ls with
    | _ n ih =>
      have h := hb n x1 x3 V hJ
      obtain ⟨B79, eB⟩ : ∃ z : Int64 → Int32 → VS → Prop, z = (fun x1 x3 V => ∃ n', n' < n ∧ J n' x1 x3 V) := ⟨_, rfl⟩
      rw [← eB] at h
      have kB79 : ∀ (x1 : Int64) (x3 : Int32) (V : VS) (H : Heap) (locs : List Loc) (ls : Array Slot), B79 x1 x3 V → ST G ks ad V (mA ks ad sz) s.heap H locs → lv_has ls 7 [(0, .ref (ad 15 0 0)), (1, .long x1), (3, .int x3)] → W p l e ({ frames := 2, cells := 211, slots := 1510, locals := 47 } : Room) s m args below meth c H locs 11 110 (MQ below (mQl post G ks ad sz) args s 211 1510 (mA ks ad sz)) (F0 m 79 ls []) := by
        intro x1 x3 V H locs ls h hS hl
        rw [eB] at h
        obtain ⟨n', hn, hJ'⟩ := h
        exact ih n' hn _ _ _ _ _ _ hS hl hJ'
      clear ih hJ hb eB
      unfold wk_X10_digest_79 at h
      refine lv_iload_n hC.1 hC.2.1 dX10_digest_79 rfl (lv_at hl 2 rfl) ?_
      refine lv_aload_n hC.1 hC.2.1 dX10_digest_80 rfl (lv_at hl 0 rfl) ?_
      obtain ⟨hk46, h⟩ := h
      refine gf_15_11 hC hS hk46 wq_1065 dX10_digest_81 ?_
      obtain ⟨hk47, h⟩ := h
      refine gn_16_5 hC hS hk47 wq_987 dX10_digest_84 ?_
      refine lv_icmp_ge (tgt := 113) hC.1 hC.2.1 dX10_digest_87 (by decide) (fun c52 => ?_) (fun c52 => ?_)
      · have h := h.1 c52
        refine lv_iconst (v := 0) hC.1 hC.2.1 dX10_digest_113 (by decide) ?_
        refine lv_istore_n (lv' := [(3, .int 0), (0, .ref (ad 15 0 0)), (1, .long x1)]) hC.1 hC.2.1 dX10_digest_114 rfl hl (by decide) rfl (fun ls hl => ?_)
        exact kT115 _ _ _ _ _ _ h hS (lv_sub hl [1, 2, 0] rfl)
      · have h := h.2 c52
        refine lv_lload_n hC.1 hC.2.1 dX10_digest_90 rfl (lv_at hl 1 rfl) ?_
        refine lv_ldc2 hC.1 hC.2.1 hC.2.2.2.1 (hC.2.2.2.2.1 _ wq_1297) dX10_digest_91 ?_
        refine lv_lmul hC.1 hC.2.1 dX10_digest_94 ?_
        refine lv_aload_n hC.1 hC.2.1 dX10_digest_95 rfl (lv_at hl 0 rfl) ?_
        refine gf_15_11 hC hS hk46 wq_1065 dX10_digest_96 ?_
        refine gn_16_4 hC hS hk47 wq_985 dX10_digest_99 ?_
        refine lv_iload_n hC.1 hC.2.1 dX10_digest_102 rfl (lv_at hl 2 rfl) ?_
        obtain ⟨hk48, h⟩ := h
        obtain ⟨hx49, h⟩ := h
        refine g_iald hC hS hk48 (by decide) hx49 dX10_digest_103 ?_
        refine lv_i2l hC.1 hC.2.1 dX10_digest_104 rfl ?_
        refine lv_ladd hC.1 hC.2.1 dX10_digest_105 ?_
        refine lv_topl (fun y50 ey50 => ?_)
        have h := h y50 ey50
        refine lv_lstore_n (lv' := [(1, .long y50), (0, .ref (ad 15 0 0)), (3, .int x3)]) hC.1 hC.2.1 dX10_digest_106 rfl hl (by decide) rfl (fun ls hl => ?_)
        obtain ⟨y51, ey51⟩ : ∃ z : Int32, z = x3 + 1 := ⟨_, rfl⟩
        have h := h y51 ey51
        refine lv_iinc (v := y51) (lv' := [(3, .int y51), (1, .long y50), (0, .ref (ad 15 0 0))]) hC.1 hC.2.1 dX10_digest_107 hl (k := 2) rfl (by rw [ey51]; rfl) (by decide) rfl (fun ls hl => ?_)
        refine lv_goto (tgt := 79) hC.1 hC.2.1 dX10_digest_110 (by decide) ?_
        exact kB79 _ _ _ _ _ _ h hS (lv_sub hl [2, 1, 0] rfl)
  have kT48 : ∀ (x4 : Int32) (x1 : Int64) (x5 : Int32) (V : VS) (H : Heap) (locs : List Loc) (ls : Array Slot), wl_X10_digest_48 ks post x4 x1 x5 V → ST G ks ad V (mA ks ad sz) s.heap H locs → lv_has ls 7 [(0, .ref (ad 15 0 0)), (1, .long x1), (3, .ref (ad 18 0 0)), (4, .int x4), (5, .int x5)] → W p l e ({ frames := 2, cells := 211, slots := 1510, locals := 47 } : Room) s m args below meth c H locs 11 110 (MQ below (mQl post G ks ad sz) args s 211 1510 (mA ks ad sz)) (F0 m 48 ls []) := by
    intro x4 x1 x5 V H locs ls h hS hl
    obtain ⟨J, ⟨n, hJ⟩, hb⟩ := h
    induction n using Nat.strongRecOn generalizing x1 x5 V H locs ls with
    | _ n ih =>
      have h := hb n x1 x5 V hJ
      obtain ⟨B48, eB⟩ : ∃ z : Int64 → Int32 → VS → Prop, z = (fun x1 x5 V => ∃ n', n' < n ∧ J n' x1 x5 V) := ⟨_, rfl⟩
      rw [← eB] at h
      have kB48 : ∀ (x1 : Int64) (x5 : Int32) (V : VS) (H : Heap) (locs : List Loc) (ls : Array Slot), B48 x1 x5 V → ST G ks ad V (mA ks ad sz) s.heap H locs → lv_has ls 7 [(0, .ref (ad 15 0 0)), (1, .long x1), (3, .ref (ad 18 0 0)), (4, .int x4), (5, .int x5)] → W p l e ({ frames := 2, cells := 211, slots := 1510, locals := 47 } : Room) s m args below meth c H locs 11 110 (MQ below (mQl post G ks ad sz) args s 211 1510 (mA ks ad sz)) (F0 m 48 ls []) := by
        intro x1 x5 V H locs ls h hS hl
        rw [eB] at h
        obtain ⟨n', hn, hJ'⟩ := h
        exact ih n' hn _ _ _ _ _ _ hS hl hJ'
      clear ih hJ hb eB
      unfold wk_X10_digest_48 at h
      refine lv_iload hC.1 hC.2.1 dX10_digest_48 (lv_at hl 4 rfl) ?_
      refine lv_iload hC.1 hC.2.1 dX10_digest_50 (lv_at hl 3 rfl) ?_
      refine lv_icmp_ge (tgt := 77) hC.1 hC.2.1 dX10_digest_52 (by decide) (fun c58 => ?_) (fun c58 => ?_)
      · have h := h.1 c58
        refine lv_iconst (v := 0) hC.1 hC.2.1 dX10_digest_77 (by decide) ?_
        refine lv_istore_n (lv' := [(3, .int 0), (0, .ref (ad 15 0 0)), (1, .long x1), (4, .int x4), (5, .int x5)]) hC.1 hC.2.1 dX10_digest_78 rfl hl (by decide) rfl (fun ls hl => ?_)
        exact kT79 _ _ _ _ _ _ h hS (lv_sub hl [1, 2, 0] rfl)
      · have h := h.2 c58
        refine lv_aload_n hC.1 hC.2.1 dX10_digest_55 rfl (lv_at hl 2 rfl) ?_
        refine lv_iload hC.1 hC.2.1 dX10_digest_56 (lv_at hl 4 rfl) ?_
        obtain ⟨hk53, h⟩ := h
        obtain ⟨hx54, h⟩ := h
        refine g_iald hC hS hk53 (by decide) hx54 dX10_digest_58 ?_
        refine lv_topi (fun y55 ey55 => ?_)
        have h := h y55 ey55
        refine lv_istore (lv' := [(6, .int y55), (0, .ref (ad 15 0 0)), (1, .long x1), (3, .ref (ad 18 0 0)), (4, .int x4), (5, .int x5)]) hC.1 hC.2.1 dX10_digest_59 hl (by decide) rfl (fun ls hl => ?_)
        refine lv_lload_n hC.1 hC.2.1 dX10_digest_61 rfl (lv_at hl 2 rfl) ?_
        refine lv_ldc2 hC.1 hC.2.1 hC.2.2.2.1 (hC.2.2.2.2.1 _ wq_1297) dX10_digest_62 ?_
        refine lv_lmul hC.1 hC.2.1 dX10_digest_65 ?_
        refine lv_iload hC.1 hC.2.1 dX10_digest_66 (lv_at hl 0 rfl) ?_
        refine lv_i2l hC.1 hC.2.1 dX10_digest_68 rfl ?_
        refine lv_ladd hC.1 hC.2.1 dX10_digest_69 ?_
        refine lv_topl (fun y56 ey56 => ?_)
        have h := h y56 ey56
        refine lv_lstore_n (lv' := [(1, .long y56), (6, .int y55), (0, .ref (ad 15 0 0)), (3, .ref (ad 18 0 0)), (4, .int x4), (5, .int x5)]) hC.1 hC.2.1 dX10_digest_70 rfl hl (by decide) rfl (fun ls hl => ?_)
        obtain ⟨y57, ey57⟩ : ∃ z : Int32, z = x5 + 1 := ⟨_, rfl⟩
        have h := h y57 ey57
        refine lv_iinc (v := y57) (lv' := [(5, .int y57), (1, .long y56), (6, .int y55), (0, .ref (ad 15 0 0)), (3, .ref (ad 18 0 0)), (4, .int x4)]) hC.1 hC.2.1 dX10_digest_71 hl (k := 5) rfl (by rw [ey57]; rfl) (by decide) rfl (fun ls hl => ?_)
        refine lv_goto (tgt := 48) hC.1 hC.2.1 dX10_digest_74 (by decide) ?_
        exact kB48 _ _ _ _ _ _ h hS (lv_sub hl [3, 1, 4, 5, 0] rfl)
  have kT11 : ∀ (x1 : Int64) (x3 : Int32) (V : VS) (H : Heap) (locs : List Loc) (ls : Array Slot), wl_X10_digest_11 ks post x1 x3 V → ST G ks ad V (mA ks ad sz) s.heap H locs → lv_has ls 7 [(0, .ref (ad 15 0 0)), (1, .long x1), (3, .int x3)] → W p l e ({ frames := 2, cells := 211, slots := 1510, locals := 47 } : Room) s m args below meth c H locs 0 0 (MQ below (mQl post G ks ad sz) args s 211 1510 (mA ks ad sz)) (F0 m 11 ls []) := by
    intro x1 x3 V H locs ls h hS hl
    obtain ⟨J, ⟨f11, hf11, hJ⟩, hb⟩ := h
    refine W.widen (k := (10 - f11)) (n := ((10 - f11) * 10)) (by omega) (by omega) ?_
    induction f11 using Nat.strongRecOn generalizing x1 x3 V H locs ls with
    | _ f11 ih =>
      have h := hb f11 x1 x3 V hJ
      obtain ⟨B11, eB⟩ : ∃ z : Int64 → Int32 → VS → Prop, z = (fun x1 x3 V => ∃ n', n' < f11 ∧ J n' x1 x3 V) := ⟨_, rfl⟩
      rw [← eB] at h
      have kB11 : ∀ (x1 : Int64) (x3 : Int32) (V : VS) (H : Heap) (locs : List Loc) (ls : Array Slot), B11 x1 x3 V → ST G ks ad V (mA ks ad sz) s.heap H locs → lv_has ls 7 [(0, .ref (ad 15 0 0)), (1, .long x1), (3, .int x3)] → W p l e ({ frames := 2, cells := 211, slots := 1510, locals := 47 } : Room) s m args below meth c H locs (10 - f11 + 1) ((10 - f11) * 10 + 10) (MQ below (mQl post G ks ad sz) args s 211 1510 (mA ks ad sz)) (F0 m 11 ls []) := by
        intro x1 x3 V H locs ls h hS hl
        rw [eB] at h
        obtain ⟨n', hn, hJ'⟩ := h
        refine W.widen (k := (10 - n')) (n := ((10 - n') * 10)) (by omega) (by omega) ?_
        exact ih n' hn _ _ _ _ _ _ hS hl (by omega) hJ'
      clear ih hJ hb eB
      unfold wk_X10_digest_11 at h
      refine lv_iload_n hC.1 hC.2.1 dX10_digest_11 rfl (lv_at hl 2 rfl) ?_
      refine lv_bipush (v := 10) hC.1 hC.2.1 dX10_digest_12 (by decide) ?_
      refine lv_icmp_ge (tgt := 36) hC.1 hC.2.1 dX10_digest_14 (by decide) (fun c66 => ?_) (fun c66 => ?_)
      · have h := h.1 c66
        refine lv_aload_n hC.1 hC.2.1 dX10_digest_36 rfl (lv_at hl 0 rfl) ?_
        obtain ⟨hk59, h⟩ := h
        refine gf_15_4 hC hS hk59 wq_1051 dX10_digest_37 ?_
        refine lv_astore_n (lv' := [(3, .ref (ad 18 0 0)), (0, .ref (ad 15 0 0)), (1, .long x1)]) hC.1 hC.2.1 dX10_digest_40 rfl hl (by decide) rfl (fun ls hl => ?_)
        refine lv_aload_n hC.1 hC.2.1 dX10_digest_41 rfl (lv_at hl 0 rfl) ?_
        obtain ⟨hk60, h⟩ := h
        refine g_alen hC hS hk60 (by decide) dX10_digest_42 ?_
        refine W.eq (g2 := F0 m 43 ls [.int 7]) rfl ?_
        refine lv_istore (lv' := [(4, .int 7), (3, .ref (ad 18 0 0)), (0, .ref (ad 15 0 0)), (1, .long x1)]) hC.1 hC.2.1 dX10_digest_43 hl (by decide) rfl (fun ls hl => ?_)
        refine lv_iconst (v := 0) hC.1 hC.2.1 dX10_digest_45 (by decide) ?_
        refine lv_istore (lv' := [(5, .int 0), (4, .int 7), (3, .ref (ad 18 0 0)), (0, .ref (ad 15 0 0)), (1, .long x1)]) hC.1 hC.2.1 dX10_digest_46 hl (by decide) rfl (fun ls hl => ?_)
        refine W.widen (k := 11) (n := 110) (by omega) (by omega) ?_
        exact kT48 _ _ _ _ _ _ _ h hS (lv_sub hl [3, 4, 2, 1, 0] rfl)
      · have h := h.2 c66
        refine lv_lload_n hC.1 hC.2.1 dX10_digest_17 rfl (lv_at hl 1 rfl) ?_
        refine lv_ldc2 hC.1 hC.2.1 hC.2.2.2.1 (hC.2.2.2.2.1 _ wq_1297) dX10_digest_18 ?_
        refine lv_lmul hC.1 hC.2.1 dX10_digest_21 ?_
        refine lv_aload_n hC.1 hC.2.1 dX10_digest_22 rfl (lv_at hl 0 rfl) ?_
        refine lv_iload_n hC.1 hC.2.1 dX10_digest_23 rfl (lv_at hl 2 rfl) ?_
        obtain ⟨hk62, h⟩ := h
        refine g_calli hS (g_runV (n := 1) (rest := [.long (x1 * 31)]) (As := [.int x3]) (C := RX10) (T := TX10) (N := 13) hC hS hk62 rfl rfl (c_X10_counted l G ks ad x3 V _ h _) (gI wq_1255 wq_1257 wq_36 wq_46 wq_1258) rfl ⟨⟨by decide +kernel, by decide +kernel, by decide +kernel⟩, rfl, rfl, Nat.le_of_ble_eq_true rfl, Nat.le_of_ble_eq_true rfl⟩ rfl hl rfl (Nat.le_of_ble_eq_true rfl) dX10_digest_24 ⟨by show (10 - f11) + 1 ≤ 211; omega, by show ((10 - f11) * 10) + 10 ≤ 1510; omega⟩) (fun r63 V61 H locs h hS => ?_)
        refine lv_i2l hC.1 hC.2.1 dX10_digest_27 rfl ?_
        refine lv_ladd hC.1 hC.2.1 dX10_digest_28 ?_
        refine lv_topl (fun y64 ey64 => ?_)
        have h := h y64 ey64
        refine lv_lstore_n (lv' := [(1, .long y64), (0, .ref (ad 15 0 0)), (3, .int x3)]) hC.1 hC.2.1 dX10_digest_29 rfl hl (by decide) rfl (fun ls hl => ?_)
        obtain ⟨y65, ey65⟩ : ∃ z : Int32, z = x3 + 1 := ⟨_, rfl⟩
        have h := h y65 ey65
        refine lv_iinc (v := y65) (lv' := [(3, .int y65), (1, .long y64), (0, .ref (ad 15 0 0))]) hC.1 hC.2.1 dX10_digest_30 hl (k := 2) rfl (by rw [ey65]; rfl) (by decide) rfl (fun ls hl => ?_)
        refine lv_goto (tgt := 11) hC.1 hC.2.1 dX10_digest_33 (by decide) ?_
        refine W.widen (k := (10 - f11 + 1)) (n := ((10 - f11) * 10 + 10)) (by omega) (by omega) ?_
        exact kB11 _ _ _ _ _ _ h hS (lv_sub hl [2, 1, 0] rfl)
  refine lv_aload_n hC.1 hC.2.1 dX10_digest_0 rfl (lv_at hl 0 rfl) ?_
  refine lv_iconst (v := 0) hC.1 hC.2.1 dX10_digest_1 (by decide) ?_
  obtain ⟨hk67, h⟩ := h
  refine pf_15_0 hC hS hk67 wq_1044 dX10_digest_2 (fun H locs hS => ?_)
  obtain ⟨V68, eV68⟩ : ∃ z : VS, z = vup V 15 0 0 0 0 0 := ⟨_, rfl⟩
  rw [← eV68] at hS
  have h := h V68 eV68
  refine lv_ldc2 hC.1 hC.2.1 hC.2.2.2.1 (hC.2.2.2.2.1 _ wq_1296) dX10_digest_5 ?_
  refine lv_lstore_n (lv' := [(1, .long 607), (0, .ref (ad 15 0 0))]) hC.1 hC.2.1 dX10_digest_8 rfl hl (by decide) rfl (fun ls hl => ?_)
  refine lv_iconst (v := 0) hC.1 hC.2.1 dX10_digest_9 (by decide) ?_
  refine lv_istore_n (lv' := [(3, .int 0), (1, .long 607), (0, .ref (ad 15 0 0))]) hC.1 hC.2.1 dX10_digest_10 rfl hl (by decide) rfl (fun ls hl => ?_)
  exact kT11 _ _ _ _ _ _ h hS (lv_sub hl [2, 1, 0] rfl)
