/-! new things at the ends of lists: the methods -/
def fldX (E : Nat) (l : List Int32) : Nat → Nat → Nat → Int32 := fun k f _ => if k = E then l.getD f 0 else 0
def uB (v q1 q2 : Nat) : Nat → Nat := fun k => if k = 8 then q1 else if k = 9 then q2 else v
theorem VN_new {V : VS} {K w n : Nat} {X : Nat → Nat → Nat → Int32} {k : Nat} (h2 : k ≠ 2) (h : k = 4 + K ∨ (K = 2 ∧ (k = 8 ∨ k = 9))) : VN V K w n X k w n = X k := by
  funext f j
  unfold VN
  rw [if_neg (fun z => h2 z.1), if_pos ⟨rfl, rfl, h⟩]
theorem adN_new {ad : AD} {K w n a : Nat} {u : Nat → Nat} {k : Nat} (h2 : k ≠ 3) (h : k = 4 + K ∨ (K = 2 ∧ (k = 8 ∨ k = 9))) : adN ad K w n a u k w n = u k := by
  unfold adN
  rw [if_neg (fun z => h2 z.1), if_pos ⟨rfl, rfl, h⟩]
theorem hex_4 {G : GG} {ad : AD} {V : VS} {w n : Nat} (v : Nat) (x0 x1 : Int32) : ∀ (a i : Nat) (x : KY), (newL 0 w n)[i]? = some x → ([(v, .inr (2, [.int x0, .int x1]))] : va_W)[i]? = some ((fun _ => v) x.1, cE G (adN ad 0 w n a (fun _ => v)) (VN V 0 w n (fldX 4 [x0, x1])) x.1 x.2.1 x.2.2) := by
  intro a i x hi
  have hi : ([(4, w, n)] : List KY)[i]? = some x := hi
  rcases i with _ | i
  · have e := Option.some.inj hi
    subst e
    show _ = some (v, cG G _ 4 w n (VN V 0 w n (fldX 4 [x0, x1]) 4 w n) _)
    rw [VN_new (by decide) (by decide)]
    rfl
  · cases hi
theorem hex_5 {G : GG} {ad : AD} {V : VS} {w n : Nat} (v : Nat) (x0 x1 x2 x3 x4 : Int32) : ∀ (a i : Nat) (x : KY), (newL 1 w n)[i]? = some x → ([(v, .inr (3, [.int x0, .int x1, .int x2, .int x3, .int x4]))] : va_W)[i]? = some ((fun _ => v) x.1, cE G (adN ad 1 w n a (fun _ => v)) (VN V 1 w n (fldX 5 [x0, x1, x2, x3, x4])) x.1 x.2.1 x.2.2) := by
  intro a i x hi
  have hi : ([(5, w, n)] : List KY)[i]? = some x := hi
  rcases i with _ | i
  · have e := Option.some.inj hi
    subst e
    show _ = some (v, cG G _ 5 w n (VN V 1 w n (fldX 5 [x0, x1, x2, x3, x4]) 5 w n) _)
    rw [VN_new (by decide) (by decide)]
    rfl
  · cases hi
theorem hex_7 {G : GG} {ad : AD} {V : VS} {w n : Nat} (v : Nat) (x0 x1 x2 x3 x4 x5 x6 x7 : Int32) : ∀ (a i : Nat) (x : KY), (newL 3 w n)[i]? = some x → ([(v, .inr (5, [.int x0, .int x1, .int x2, .int x3, .int x4, .int x5, .int x6, .int x7]))] : va_W)[i]? = some ((fun _ => v) x.1, cE G (adN ad 3 w n a (fun _ => v)) (VN V 3 w n (fldX 7 [x0, x1, x2, x3, x4, x5, x6, x7])) x.1 x.2.1 x.2.2) := by
  intro a i x hi
  have hi : ([(7, w, n)] : List KY)[i]? = some x := hi
  rcases i with _ | i
  · have e := Option.some.inj hi
    subst e
    show _ = some (v, cG G _ 7 w n (VN V 3 w n (fldX 7 [x0, x1, x2, x3, x4, x5, x6, x7]) 7 w n) _)
    rw [VN_new (by decide) (by decide)]
    rfl
  · cases hi
theorem hex_6 {G : GG} {ad : AD} {V : VS} {w n : Nat} (v q1 q2 : Nat) (x0 x1 x3 x4 x5 : Int32) : ∀ (a i : Nat) (x : KY), (newL 2 w n)[i]? = some x → ([(v, .inr (1, [.int x0, .int x1, .ref q1, .int x3, .int x4, .int x5])), (q1, .inr (4, [.ref q2, .int 0])), (q2, .inl (G.2.1, 10, .inl (fun _ => (0 : Int32))))] : va_W)[i]? = some (uB v q1 q2 x.1, cE G (adN ad 2 w n a (uB v q1 q2)) (VN V 2 w n (fldX 6 [x0, x1, 0, x3, x4, x5])) x.1 x.2.1 x.2.2) := by
  intro a i x hi
  have hi : ([(6, w, n), (8, w, n), (9, w, n)] : List KY)[i]? = some x := hi
  rcases i with _ | _ | _ | i
  · have e := Option.some.inj hi
    subst e
    show _ = some (v, cG G _ 6 w n (VN V 2 w n (fldX 6 [x0, x1, 0, x3, x4, x5]) 6 w n) _)
    rw [VN_new (by decide) (by decide)]
    show _ = some (v, (.inr (1, [.int x0, .int x1, .ref (adN ad 2 w n a (uB v q1 q2) 8 w n), .int x3, .int x4, .int x5]) : va_E))
    rw [adN_new (by decide) (by decide)]
    rfl
  · have e := Option.some.inj hi
    subst e
    show _ = some (q1, cG G _ 8 w n (VN V 2 w n (fldX 6 [x0, x1, 0, x3, x4, x5]) 8 w n) _)
    rw [VN_new (by decide) (by decide)]
    show _ = some (q1, (.inr (4, [.ref (adN ad 2 w n a (uB v q1 q2) 9 w n), .int 0]) : va_E))
    rw [adN_new (by decide) (by decide)]
    rfl
  · have e := Option.some.inj hi
    subst e
    show _ = some (q2, cG G _ 9 w n (VN V 2 w n (fldX 6 [x0, x1, 0, x3, x4, x5]) 9 w n) _)
    rw [VN_new (by decide) (by decide)]
    rfl
  · cases hi
def mBN (G : GG) (ks : List KY) (ad : AD) (sz : Nat) : List KY × VS → State → Prop := fun u t => ∃ ad' : AD, va_P G.1 vwCl (pic G u.1 ad' u.2) t.heap ∧ Dj (mA ks ad sz) u.1 ad' ∧ ∀ k w i : Nat, k ≠ 3 → (k < 4 ∨ 9 < k) → ad' k w i = ad k w i
def mQn (post : Int32 → List KY × VS → Prop) (G : GG) (ks : List KY) (ad : AD) (sz : Nat) : Array Value → State → Outcome → State → Prop := va_Qi post (mBN G ks ad sz) (mA ks ad sz)
theorem g_iretN {p : Program} {l : Launch} {e : Env} {R : Room} {s : State} {m : MethodId} {args : Array Value} {below : List Frame} {meth : Method} {c : Code} {H : Heap} {locs : List Loc} {cells slots : Nat} {cc : ByteArray} {pc nL sz : Nat} {own : String} {ls : Array Slot} {G : GG} {ks ks' : List KY} {ad ad' : AD} {V' : VS} {post : Int32 → List KY × VS → Prop} {v : Int32} (hC : CX p s m args c cc nL own G (mA ks ad sz)) (hr : meth.sig.returnType = some .int) (hlk : meth.locks = false) (hS : ST G ks' ad' V' (mA ks ad sz) s.heap H locs) (hag : ∀ k w i : Nat, k ≠ 3 → (k < 4 ∨ 9 < k) → ad' k w i = ad k w i) (hp : post v (ks', V')) (hd : decode cc pc = .ok (.ireturn, 1)) :
    W p l e R s m args below meth c H locs cells slots (MQ below (mQn post G ks ad sz) args s cells slots (mA ks ad sz)) (F0 m pc ls [.int v]) :=
  W.iret hC.1 hC.2.1 hr (fun t ht _ => ⟨⟨v, (ks', V'), rfl, hp, ad', by rw [ht]; exact hS.1, hS.2.2.1, hag⟩, hS.2.1.F ht⟩) hS.2.1.2.2 hd hlk
def wp_X8_addHalt (ks : List KY) (V : VS) (post : Int32 → List KY × VS → Prop) (xp : Nat → VS → Prop) : Prop := ((0, 0, 0) ∈ ks ∧ (1, 0, 0) ∈ ks ∧ (2, 0, 0) ∈ ks ∧ ∀ y4 : Int32, y4 = V 2 0 0 2 0 → (y4 < 8 → (∃ n5 : Nat, AddOK ks V 0 0 n5 ∧ ∀ V11 : VS, V11 = VN V 0 0 n5 (fldX 4 [0, 0]) → (0, 0, 0) ∈ (ksN ks 0 0 n5) ∧ (1, 1, 0) ∈ (ksN ks 0 0 n5) ∧ ∃ n15 : Nat, AddOK (ksN ks 0 0 n5) V11 1 0 n15 ∧ ∀ V21 : VS, V21 = VN V11 0 1 n15 (fldX 4 [0, 0]) → post y4 ((ksN (ksN ks 0 0 n5) 0 1 n15), V21))) ∧ (¬ (y4 < 8) → (xp 3 V)))
set_option maxHeartbeats 4000000 in
set_option maxRecDepth 100000 in
theorem c_X8_addHalt (l : Launch) (hlf : l.stackTraces = false) (G : GG) (ks : List KY) (ad : AD) (V : VS) (post : Int32 → List KY × VS → Prop) (xp : Nat → VS → Prop) (h : wp_X8_addHalt ks V post xp) (sz : Nat) : vx_Met l yX8_addHalt (ws_ yX8_addHalt cX8_addHalt 2 (some .int)) ({ frames := 7, cells := 4, slots := 70, locals := 195 }) (mPc [.ref (ad 0 0 0)] G ks ad V sz) (mQn post G ks ad sz) (mX xp G ks ad sz) 4 70 (mA ks ad sz) := by
  refine g_xmet (own := RX8) (by decide) rfl (Nat.le_of_ble_eq_true rfl) ?_
  intro p e s m args below meth c ls hC hsz hr hlk hin hS ha hl htab
  have hl : lv_has ls 2 [(0, .ref (ad 0 0 0))] := hl
  unfold wp_X8_addHalt at h
  refine lv_aload_n hC.1 hC.2.1 dX8_addHalt_0 rfl (lv_at hl 0 rfl) ?_
  obtain ⟨hk1, h⟩ := h
  refine gf_0_0 hC hS hk1 wq_168 dX8_addHalt_1 ?_
  obtain ⟨hk2, h⟩ := h
  refine gn_1_0 hC hS hk2 wq_135 dX8_addHalt_4 ?_
  obtain ⟨hk3, h⟩ := h
  refine g_lsize hC hS hk3 wq_338 hl ⟨Nat.le_of_ble_eq_true rfl, Nat.le_of_ble_eq_true rfl, Nat.zero_le _⟩ (Nat.le_of_ble_eq_true rfl) dX8_addHalt_7 ⟨Nat.le_of_ble_eq_true rfl, Nat.le_of_ble_eq_true rfl⟩ (fun H locs hS => ?_)
  refine lv_topi (fun y4 ey4 => ?_)
  have h := h y4 ey4
  refine lv_istore_n (lv' := [(1, .int y4), (0, .ref (ad 0 0 0))]) hC.1 hC.2.1 dX8_addHalt_10 rfl hl (by decide) rfl (fun ls hl => ?_)
  refine lv_iload_n hC.1 hC.2.1 dX8_addHalt_11 rfl (lv_at hl 0 rfl) ?_
  refine lv_bipush (v := 8) hC.1 hC.2.1 dX8_addHalt_12 (by decide) ?_
  refine lv_icmp_lt (tgt := 27) hC.1 hC.2.1 dX8_addHalt_14 (by decide) (fun c23 => ?_) (fun c23 => ?_)
  · have h := h.1 c23
    refine lv_aload_n hC.1 hC.2.1 dX8_addHalt_27 rfl (lv_at hl 1 rfl) ?_
    refine gf_0_0 hC hS hk1 wq_168 dX8_addHalt_28 ?_
    refine gn_1_0 hC hS hk2 wq_135 dX8_addHalt_31 ?_
    obtain ⟨n5, hok6, h⟩ := h
    obtain ⟨hP, hS1, hDj, hA⟩ := hS
    have hD := hDj.D (G := G) (V := V)
    refine va_new (ci := 2) (fs := [.int 0, .int 0]) (C := RX1) (T := TX1) (N := 2) hC.1 hC.2.1 hC.2.2.2.2.1 ina_X1 tyX1 tyX1_ok hC.2.2.2.1 (hC.2.2.2.2.1 _ wq_407) (hC.2.2.2.2.1 _ wq_408) (hC.2.2.2.2.1 _ wq_52) hC.2.2.2.2.2.1.1 hP hD hS1 hA rfl df_X1 (Nat.le_of_ble_eq_true rfl) (Nat.le_of_ble_eq_true rfl) dX8_addHalt_34 (fun v7 H hP hD hS1 => ?_)
    refine W.widen (k := 1) (n := 2) (Nat.le_of_ble_eq_true rfl) (Nat.le_of_ble_eq_true rfl) ?_
    refine lv_dup hC.1 hC.2.1 dX8_addHalt_37 rfl ?_
    refine r_initN (n := 0) (As := []) (rest := [.ref v7, .ref (ad 2 0 0)]) (ws := pic G ks ad V) (x := (v7, .inr (2, [.int 0, .int 0]))) hC hP hD hS1 hA (c_X1_init l G v7 _) wq_409 wq_410 wq_52 wq_411 rfl ⟨⟨by decide +kernel, by decide +kernel, by decide +kernel⟩, rfl, rfl, Nat.le_of_ble_eq_true rfl, Nat.le_of_ble_eq_true rfl⟩ rfl hl rfl (Nat.le_of_ble_eq_true rfl) dX8_addHalt_38 ⟨Nat.le_of_ble_eq_true rfl, Nat.le_of_ble_eq_true rfl⟩ (fun u8 H locs hP hD hS1 => ?_)
    refine W.widen (k := 1) (n := 2) (Nat.le_of_ble_eq_true rfl) (Nat.le_of_ble_eq_true rfl) ?_
    refine W.eq (g2 := F0 m 41 ls [.ref ((fun _ => v7) (4 + 0)), .ref (ad 2 0 0)]) rfl ?_
    refine g_ladd (ex := [(v7, .inr (2, [.int 0, .int 0]))]) (K := 0) (w := 0) (n := n5) (u := (fun _ => v7)) (X := (fldX 4 [0, 0])) (rest := []) hC hP hD hS1 hA hDj hok6 (hex_4 v7 0 0) rfl rfl rfl wq_1308 (by decide) (fun j => ⟨_, rfl⟩) wq_422 hl ⟨Nat.le_of_ble_eq_true rfl, Nat.le_of_ble_eq_true rfl⟩ (Nat.le_of_ble_eq_true rfl) dX8_addHalt_41 ⟨Nat.le_of_ble_eq_true rfl, Nat.le_of_ble_eq_true rfl⟩ (fun a9 H locs hS => ?_)
    refine W.widen (k := 2) (n := 35) (Nat.le_of_ble_eq_true rfl) (Nat.le_of_ble_eq_true rfl) ?_
    obtain ⟨ad10, ead10⟩ : ∃ z : AD, z = adN ad 0 0 n5 a9 (fun _ => v7) := ⟨_, rfl⟩
    rw [← ead10] at hS
    obtain ⟨V11, eV11⟩ : ∃ z : VS, z = VN V 0 0 n5 (fldX 4 [0, 0]) := ⟨_, rfl⟩
    rw [← eV11] at hS
    have h := h V11 eV11
    have hag12 : ∀ k w i : Nat, k ≠ 3 → (k < 4 ∨ 9 < k) → ad10 k w i = ad k w i := fun k w i h1 h2 => by rw [ead10, adN_ne (by decide) h1 h2]
    rw [show ad 0 0 0 = ad10 0 0 0 from by rw [ead10, adN_ne (by decide) (by decide) (by decide)]] at hl
    refine W.eq (g2 := F0 m 44 ls [.int 1]) rfl ?_
    refine lv_pop hC.1 hC.2.1 dX8_addHalt_44 rfl ?_
    refine lv_aload_n hC.1 hC.2.1 dX8_addHalt_45 rfl (lv_at hl 1 rfl) ?_
    obtain ⟨hk13, h⟩ := h
    refine gf_0_1 hC hS hk13 wq_169 dX8_addHalt_46 ?_
    obtain ⟨hk14, h⟩ := h
    refine gn_1_0 hC hS hk14 wq_135 dX8_addHalt_49 ?_
    obtain ⟨n15, hok16, h⟩ := h
    obtain ⟨hP, hS1, hDj, hA⟩ := hS
    have hD := hDj.D (G := G) (V := V11)
    refine va_new (ci := 2) (fs := [.int 0, .int 0]) (C := RX1) (T := TX1) (N := 2) hC.1 hC.2.1 hC.2.2.2.2.1 ina_X1 tyX1 tyX1_ok hC.2.2.2.1 (hC.2.2.2.2.1 _ wq_407) (hC.2.2.2.2.1 _ wq_408) (hC.2.2.2.2.1 _ wq_52) hC.2.2.2.2.2.1.1 hP hD hS1 hA rfl df_X1 (Nat.le_of_ble_eq_true rfl) (Nat.le_of_ble_eq_true rfl) dX8_addHalt_52 (fun v17 H hP hD hS1 => ?_)
    refine W.widen (k := 3) (n := 37) (Nat.le_of_ble_eq_true rfl) (Nat.le_of_ble_eq_true rfl) ?_
    refine lv_dup hC.1 hC.2.1 dX8_addHalt_55 rfl ?_
    refine r_initN (n := 0) (As := []) (rest := [.ref v17, .ref (ad10 2 1 0)]) (ws := pic G (ksN ks 0 0 n5) ad10 V11) (x := (v17, .inr (2, [.int 0, .int 0]))) hC hP hD hS1 hA (c_X1_init l G v17 _) wq_409 wq_410 wq_52 wq_411 rfl ⟨⟨by decide +kernel, by decide +kernel, by decide +kernel⟩, rfl, rfl, Nat.le_of_ble_eq_true rfl, Nat.le_of_ble_eq_true rfl⟩ rfl hl rfl (Nat.le_of_ble_eq_true rfl) dX8_addHalt_56 ⟨Nat.le_of_ble_eq_true rfl, Nat.le_of_ble_eq_true rfl⟩ (fun u18 H locs hP hD hS1 => ?_)
    refine W.widen (k := 3) (n := 37) (Nat.le_of_ble_eq_true rfl) (Nat.le_of_ble_eq_true rfl) ?_
    refine W.eq (g2 := F0 m 59 ls [.ref ((fun _ => v17) (4 + 0)), .ref (ad10 2 1 0)]) rfl ?_
    refine g_ladd (ex := [(v17, .inr (2, [.int 0, .int 0]))]) (K := 0) (w := 1) (n := n15) (u := (fun _ => v17)) (X := (fldX 4 [0, 0])) (rest := []) hC hP hD hS1 hA hDj hok16 (hex_4 v17 0 0) rfl rfl rfl wq_1308 (by decide) (fun j => ⟨_, rfl⟩) wq_422 hl ⟨Nat.le_of_ble_eq_true rfl, Nat.le_of_ble_eq_true rfl⟩ (Nat.le_of_ble_eq_true rfl) dX8_addHalt_59 ⟨Nat.le_of_ble_eq_true rfl, Nat.le_of_ble_eq_true rfl⟩ (fun a19 H locs hS => ?_)
    refine W.widen (k := 4) (n := 70) (Nat.le_of_ble_eq_true rfl) (Nat.le_of_ble_eq_true rfl) ?_
    obtain ⟨ad20, ead20⟩ : ∃ z : AD, z = adN ad10 0 1 n15 a19 (fun _ => v17) := ⟨_, rfl⟩
    rw [← ead20] at hS
    obtain ⟨V21, eV21⟩ : ∃ z : VS, z = VN V11 0 1 n15 (fldX 4 [0, 0]) := ⟨_, rfl⟩
    rw [← eV21] at hS
    have h := h V21 eV21
    have hag22 : ∀ k w i : Nat, k ≠ 3 → (k < 4 ∨ 9 < k) → ad20 k w i = ad k w i := fun k w i h1 h2 => by rw [ead20, adN_ne (by decide) h1 h2]; exact hag12 k w i h1 h2
    rw [show ad10 0 0 0 = ad20 0 0 0 from by rw [ead20, adN_ne (by decide) (by decide) (by decide)]] at hl
    refine W.eq (g2 := F0 m 62 ls [.int 1]) rfl ?_
    refine lv_pop hC.1 hC.2.1 dX8_addHalt_62 rfl ?_
    refine lv_iload_n hC.1 hC.2.1 dX8_addHalt_63 rfl (lv_at hl 0 rfl) ?_
    exact vx_ret (g_iretN hC hr hlk hS hag22 h dX8_addHalt_64)
  · have h := h.2 c23
    exact g_throw (n := 3) hlf hC hS hl htab hlk (by decide +kernel) hat_3 hbt_3 hgd_3 wq_339 wq_51 sr_31 dX8_addHalt_17 dX8_addHalt_20 dX8_addHalt_21 dX8_addHalt_23 dX8_addHalt_26 ⟨Nat.le_of_ble_eq_true rfl, Nat.le_of_ble_eq_true rfl, Nat.le_of_ble_eq_true rfl, Nat.le_of_ble_eq_true rfl⟩ ⟨Nat.le_of_ble_eq_true rfl, Nat.le_of_ble_eq_true rfl⟩ h
def wp_X8_addLane (ks : List KY) (a1 : Int32) (a2 : Int32) (a3 : Int32) (a4 : Int32) (V : VS) (post : Int32 → List KY × VS → Prop) (xp : Nat → VS → Prop) : Prop := ((0, 0, 0) ∈ ks ∧ wp_X8_needHalt ks a1 V (fun V1 => (wp_X8_needHalt ks a2 V1 (fun V3 => ((a1 = a2 → (xp 2 V3)) ∧ (¬ (a1 = a2) → (wp_X8_isWithin ks a3 1 30 V3 (fun r5 V4 => ((r5 = 0 → (xp 2 V4)) ∧ (¬ (r5 = 0) → (wp_X8_isWithin ks a4 0 9 V4 (fun r7 V6 => ((r7 = 0 → (xp 2 V6)) ∧ (¬ (r7 = 0) → ((1, 0, 0) ∈ ks ∧ (2, 0, 1) ∈ ks ∧ ∀ y10 : Int32, y10 = V6 2 0 1 2 0 → (y10 < 16 → (∃ n11 : Nat, AddOK ks V6 0 1 n11 ∧ ∀ V17 : VS, V17 = VN V6 1 0 n11 (fldX 5 [a1, a2, a3, a4, 0]) → (0, 0, 0) ∈ (ksN ks 1 0 n11) ∧ (1, 1, 0) ∈ (ksN ks 1 0 n11) ∧ ∃ n21 : Nat, AddOK (ksN ks 1 0 n11) V17 1 1 n21 ∧ ∀ V27 : VS, V27 = VN V17 1 1 n21 (fldX 5 [a1, a2, a3, a4, 0]) → post y10 ((ksN (ksN ks 1 0 n11) 1 1 n21), V27))) ∧ (¬ (y10 < 16) → (xp 3 V6)))))))))))))) xp)) xp)
set_option maxHeartbeats 4000000 in
set_option maxRecDepth 100000 in
theorem c_X8_addLane (l : Launch) (hlf : l.stackTraces = false) (G : GG) (ks : List KY) (ad : AD) (a1 : Int32) (a2 : Int32) (a3 : Int32) (a4 : Int32) (V : VS) (post : Int32 → List KY × VS → Prop) (xp : Nat → VS → Prop) (h : wp_X8_addLane ks a1 a2 a3 a4 V post xp) (sz : Nat) : vx_Met l yX8_addLane (ws_ yX8_addLane cX8_addLane 6 (some .int)) ({ frames := 8, cells := 6, slots := 88, locals := 195 }) (mPc [.ref (ad 0 0 0), .int a1, .int a2, .int a3, .int a4] G ks ad V sz) (mQn post G ks ad sz) (mX xp G ks ad sz) 6 88 (mA ks ad sz) := by
  refine g_xmet (own := RX8) (by decide) rfl (Nat.le_of_ble_eq_true rfl) ?_
  intro p e s m args below meth c ls hC hsz hr hlk hin hS ha hl htab
  have hl : lv_has ls 6 [(0, .ref (ad 0 0 0)), (1, .int a1), (2, .int a2), (3, .int a3), (4, .int a4)] := hl
  unfold wp_X8_addLane at h
  refine lv_aload_n hC.1 hC.2.1 dX8_addLane_0 rfl (lv_at hl 0 rfl) ?_
  refine lv_iload_n hC.1 hC.2.1 dX8_addLane_1 rfl (lv_at hl 1 rfl) ?_
  obtain ⟨hk2, h⟩ := h
  refine g_xcallv hS htab hlk ⟨Nat.le_of_ble_eq_true rfl, Nat.le_of_ble_eq_true rfl⟩ (g_xrunV (n := 1) (rest := []) (As := [.int a1]) (C := RX8) (T := TX8) (N := 2) hC hS hk2 rfl rfl (c_X8_needHalt l hlf G ks ad a1 V _ _ h _) (gI wq_493 wq_495 wq_10 wq_39 wq_496) rfl ⟨⟨by decide +kernel, by decide +kernel, by decide +kernel⟩, rfl, rfl, Nat.le_of_ble_eq_true rfl, Nat.le_of_ble_eq_true rfl⟩ rfl hl rfl (Nat.le_of_ble_eq_true rfl) dX8_addLane_2 ⟨Nat.le_of_ble_eq_true rfl, Nat.le_of_ble_eq_true rfl⟩) (fun V1 H locs h hS => ?_)
  refine W.widen (k := 1) (n := 6) (Nat.le_of_ble_eq_true rfl) (Nat.le_of_ble_eq_true rfl) ?_
  refine lv_aload_n hC.1 hC.2.1 dX8_addLane_5 rfl (lv_at hl 0 rfl) ?_
  refine lv_iload_n hC.1 hC.2.1 dX8_addLane_6 rfl (lv_at hl 2 rfl) ?_
  refine g_xcallv hS htab hlk ⟨Nat.le_of_ble_eq_true rfl, Nat.le_of_ble_eq_true rfl⟩ (g_xrunV (n := 1) (rest := []) (As := [.int a2]) (C := RX8) (T := TX8) (N := 2) hC hS hk2 rfl rfl (c_X8_needHalt l hlf G ks ad a2 V1 _ _ h _) (gI wq_493 wq_495 wq_10 wq_39 wq_496) rfl ⟨⟨by decide +kernel, by decide +kernel, by decide +kernel⟩, rfl, rfl, Nat.le_of_ble_eq_true rfl, Nat.le_of_ble_eq_true rfl⟩ rfl hl rfl (Nat.le_of_ble_eq_true rfl) dX8_addLane_7 ⟨Nat.le_of_ble_eq_true rfl, Nat.le_of_ble_eq_true rfl⟩) (fun V3 H locs h hS => ?_)
  refine W.widen (k := 2) (n := 12) (Nat.le_of_ble_eq_true rfl) (Nat.le_of_ble_eq_true rfl) ?_
  refine lv_iload_n hC.1 hC.2.1 dX8_addLane_10 rfl (lv_at hl 1 rfl) ?_
  refine lv_iload_n hC.1 hC.2.1 dX8_addLane_11 rfl (lv_at hl 2 rfl) ?_
  refine lv_icmp_ne (tgt := 25) hC.1 hC.2.1 dX8_addLane_12 (by decide) (fun c32 => ?_) (fun c32 => ?_)
  · have h := h.2 c32
    refine lv_iload_n hC.1 hC.2.1 dX8_addLane_25 rfl (lv_at hl 3 rfl) ?_
    refine lv_iconst (v := 1) hC.1 hC.2.1 dX8_addLane_26 (by decide) ?_
    refine lv_bipush (v := 30) hC.1 hC.2.1 dX8_addLane_27 (by decide) ?_
    refine g_calli0 hS (g_runS (n := 3) (rest := []) (As := [.int a3, .int 1, .int 30]) hC hS (c_X8_isWithin l G ks ad a3 1 30 V3 _ h _) (gIS wq_532 wq_533 wq_39 wq_534) ⟨⟨by decide +kernel, by decide +kernel, by decide +kernel⟩, rfl, rfl, Nat.le_of_ble_eq_true rfl, Nat.le_of_ble_eq_true rfl⟩ rfl hl rfl (Nat.le_of_ble_eq_true rfl) dX8_addLane_29 ⟨Nat.le_of_ble_eq_true rfl, Nat.le_of_ble_eq_true rfl⟩) (fun r5 V4 H locs h hS => ?_)
    refine lv_if_ne (tgt := 45) hC.1 hC.2.1 dX8_addLane_32 (by decide) (fun c31 => ?_) (fun c31 => ?_)
    · have h := h.2 c31
      refine lv_iload hC.1 hC.2.1 dX8_addLane_45 (lv_at hl 4 rfl) ?_
      refine lv_iconst (v := 0) hC.1 hC.2.1 dX8_addLane_47 (by decide) ?_
      refine lv_bipush (v := 9) hC.1 hC.2.1 dX8_addLane_48 (by decide) ?_
      refine g_calli0 hS (g_runS (n := 3) (rest := []) (As := [.int a4, .int 0, .int 9]) hC hS (c_X8_isWithin l G ks ad a4 0 9 V4 _ h _) (gIS wq_532 wq_533 wq_39 wq_534) ⟨⟨by decide +kernel, by decide +kernel, by decide +kernel⟩, rfl, rfl, Nat.le_of_ble_eq_true rfl, Nat.le_of_ble_eq_true rfl⟩ rfl hl rfl (Nat.le_of_ble_eq_true rfl) dX8_addLane_50 ⟨Nat.le_of_ble_eq_true rfl, Nat.le_of_ble_eq_true rfl⟩) (fun r7 V6 H locs h hS => ?_)
      refine lv_if_ne (tgt := 66) hC.1 hC.2.1 dX8_addLane_53 (by decide) (fun c30 => ?_) (fun c30 => ?_)
      · have h := h.2 c30
        refine lv_aload_n hC.1 hC.2.1 dX8_addLane_66 rfl (lv_at hl 0 rfl) ?_
        refine gf_0_0 hC hS hk2 wq_168 dX8_addLane_67 ?_
        obtain ⟨hk8, h⟩ := h
        refine gn_1_1 hC hS hk8 wq_137 dX8_addLane_70 ?_
        obtain ⟨hk9, h⟩ := h
        refine g_lsize hC hS hk9 wq_338 hl ⟨Nat.le_of_ble_eq_true rfl, Nat.le_of_ble_eq_true rfl, Nat.zero_le _⟩ (Nat.le_of_ble_eq_true rfl) dX8_addLane_73 ⟨Nat.le_of_ble_eq_true rfl, Nat.le_of_ble_eq_true rfl⟩ (fun H locs hS => ?_)
        refine lv_topi (fun y10 ey10 => ?_)
        have h := h y10 ey10
        refine lv_istore (lv' := [(5, .int y10), (0, .ref (ad 0 0 0)), (1, .int a1), (2, .int a2), (3, .int a3), (4, .int a4)]) hC.1 hC.2.1 dX8_addLane_76 hl (by decide) rfl (fun ls hl => ?_)
        refine lv_iload hC.1 hC.2.1 dX8_addLane_78 (lv_at hl 0 rfl) ?_
        refine lv_bipush (v := 16) hC.1 hC.2.1 dX8_addLane_80 (by decide) ?_
        refine lv_icmp_lt (tgt := 95) hC.1 hC.2.1 dX8_addLane_82 (by decide) (fun c29 => ?_) (fun c29 => ?_)
        · have h := h.1 c29
          refine lv_aload_n hC.1 hC.2.1 dX8_addLane_95 rfl (lv_at hl 1 rfl) ?_
          refine gf_0_0 hC hS hk2 wq_168 dX8_addLane_96 ?_
          refine gn_1_1 hC hS hk8 wq_137 dX8_addLane_99 ?_
          obtain ⟨n11, hok12, h⟩ := h
          obtain ⟨hP, hS1, hDj, hA⟩ := hS
          have hD := hDj.D (G := G) (V := V6)
          refine va_new (ci := 3) (fs := [.int 0, .int 0, .int 0, .int 0, .int 0]) (C := RX2) (T := TX2) (N := 5) hC.1 hC.2.1 hC.2.2.2.2.1 ina_X2 tyX2 tyX2_ok hC.2.2.2.1 (hC.2.2.2.2.1 _ wq_538) (hC.2.2.2.2.1 _ wq_539) (hC.2.2.2.2.1 _ wq_59) hC.2.2.2.2.2.1.1 hP hD hS1 hA rfl df_X2 (Nat.le_of_ble_eq_true rfl) (Nat.le_of_ble_eq_true rfl) dX8_addLane_102 (fun v13 H hP hD hS1 => ?_)
          refine W.widen (k := 3) (n := 17) (Nat.le_of_ble_eq_true rfl) (Nat.le_of_ble_eq_true rfl) ?_
          refine lv_dup hC.1 hC.2.1 dX8_addLane_105 rfl ?_
          refine lv_iload_n hC.1 hC.2.1 dX8_addLane_106 rfl (lv_at hl 2 rfl) ?_
          refine lv_iload_n hC.1 hC.2.1 dX8_addLane_107 rfl (lv_at hl 3 rfl) ?_
          refine lv_iload_n hC.1 hC.2.1 dX8_addLane_108 rfl (lv_at hl 4 rfl) ?_
          refine lv_iload hC.1 hC.2.1 dX8_addLane_109 (lv_at hl 5 rfl) ?_
          refine r_init (n := 4) (As := [.int a1, .int a2, .int a3, .int a4]) (rest := [.ref v13, .ref (ad 2 0 1)]) (ws := pic G ks ad V6) (x := (v13, .inr (3, [.int 0, .int 0, .int 0, .int 0, .int 0]))) hC hP hD hS1 hA (c_X2_init l G v13 _ a1 a2 a3 a4) wq_540 wq_541 wq_59 wq_542 rfl ⟨⟨by decide +kernel, by decide +kernel, by decide +kernel⟩, rfl, rfl, Nat.le_of_ble_eq_true rfl, Nat.le_of_ble_eq_true rfl⟩ rfl hl rfl (Nat.le_of_ble_eq_true rfl) dX8_addLane_111 ⟨Nat.le_of_ble_eq_true rfl, Nat.le_of_ble_eq_true rfl⟩ (fun u14 H locs hP hD hS1 => ?_)
          refine W.widen (k := 3) (n := 17) (Nat.le_of_ble_eq_true rfl) (Nat.le_of_ble_eq_true rfl) ?_
          refine W.eq (g2 := F0 m 114 ls [.ref ((fun _ => v13) (4 + 1)), .ref (ad 2 0 1)]) rfl ?_
          refine g_ladd (ex := [(v13, .inr (3, [.int a1, .int a2, .int a3, .int a4, .int 0]))]) (K := 1) (w := 0) (n := n11) (u := (fun _ => v13)) (X := (fldX 5 [a1, a2, a3, a4, 0])) (rest := []) hC hP hD hS1 hA hDj hok12 (hex_5 v13 a1 a2 a3 a4 0) rfl rfl rfl wq_1311 (by decide) (fun j => ⟨_, rfl⟩) wq_422 hl ⟨Nat.le_of_ble_eq_true rfl, Nat.le_of_ble_eq_true rfl⟩ (Nat.le_of_ble_eq_true rfl) dX8_addLane_114 ⟨Nat.le_of_ble_eq_true rfl, Nat.le_of_ble_eq_true rfl⟩ (fun a15 H locs hS => ?_)
          refine W.widen (k := 4) (n := 50) (Nat.le_of_ble_eq_true rfl) (Nat.le_of_ble_eq_true rfl) ?_
          obtain ⟨ad16, ead16⟩ : ∃ z : AD, z = adN ad 1 0 n11 a15 (fun _ => v13) := ⟨_, rfl⟩
          rw [← ead16] at hS
          obtain ⟨V17, eV17⟩ : ∃ z : VS, z = VN V6 1 0 n11 (fldX 5 [a1, a2, a3, a4, 0]) := ⟨_, rfl⟩
          rw [← eV17] at hS
          have h := h V17 eV17
          have hag18 : ∀ k w i : Nat, k ≠ 3 → (k < 4 ∨ 9 < k) → ad16 k w i = ad k w i := fun k w i h1 h2 => by rw [ead16, adN_ne (by decide) h1 h2]
          rw [show ad 0 0 0 = ad16 0 0 0 from by rw [ead16, adN_ne (by decide) (by decide) (by decide)]] at hl
          refine W.eq (g2 := F0 m 117 ls [.int 1]) rfl ?_
          refine lv_pop hC.1 hC.2.1 dX8_addLane_117 rfl ?_
          refine lv_aload_n hC.1 hC.2.1 dX8_addLane_118 rfl (lv_at hl 1 rfl) ?_
          obtain ⟨hk19, h⟩ := h
          refine gf_0_1 hC hS hk19 wq_169 dX8_addLane_119 ?_
          obtain ⟨hk20, h⟩ := h
          refine gn_1_1 hC hS hk20 wq_137 dX8_addLane_122 ?_
          obtain ⟨n21, hok22, h⟩ := h
          obtain ⟨hP, hS1, hDj, hA⟩ := hS
          have hD := hDj.D (G := G) (V := V17)
          refine va_new (ci := 3) (fs := [.int 0, .int 0, .int 0, .int 0, .int 0]) (C := RX2) (T := TX2) (N := 5) hC.1 hC.2.1 hC.2.2.2.2.1 ina_X2 tyX2 tyX2_ok hC.2.2.2.1 (hC.2.2.2.2.1 _ wq_538) (hC.2.2.2.2.1 _ wq_539) (hC.2.2.2.2.1 _ wq_59) hC.2.2.2.2.2.1.1 hP hD hS1 hA rfl df_X2 (Nat.le_of_ble_eq_true rfl) (Nat.le_of_ble_eq_true rfl) dX8_addLane_125 (fun v23 H hP hD hS1 => ?_)
          refine W.widen (k := 5) (n := 55) (Nat.le_of_ble_eq_true rfl) (Nat.le_of_ble_eq_true rfl) ?_
          refine lv_dup hC.1 hC.2.1 dX8_addLane_128 rfl ?_
          refine lv_iload_n hC.1 hC.2.1 dX8_addLane_129 rfl (lv_at hl 2 rfl) ?_
          refine lv_iload_n hC.1 hC.2.1 dX8_addLane_130 rfl (lv_at hl 3 rfl) ?_
          refine lv_iload_n hC.1 hC.2.1 dX8_addLane_131 rfl (lv_at hl 4 rfl) ?_
          refine lv_iload hC.1 hC.2.1 dX8_addLane_132 (lv_at hl 5 rfl) ?_
          refine r_init (n := 4) (As := [.int a1, .int a2, .int a3, .int a4]) (rest := [.ref v23, .ref (ad16 2 1 1)]) (ws := pic G (ksN ks 1 0 n11) ad16 V17) (x := (v23, .inr (3, [.int 0, .int 0, .int 0, .int 0, .int 0]))) hC hP hD hS1 hA (c_X2_init l G v23 _ a1 a2 a3 a4) wq_540 wq_541 wq_59 wq_542 rfl ⟨⟨by decide +kernel, by decide +kernel, by decide +kernel⟩, rfl, rfl, Nat.le_of_ble_eq_true rfl, Nat.le_of_ble_eq_true rfl⟩ rfl hl rfl (Nat.le_of_ble_eq_true rfl) dX8_addLane_134 ⟨Nat.le_of_ble_eq_true rfl, Nat.le_of_ble_eq_true rfl⟩ (fun u24 H locs hP hD hS1 => ?_)
          refine W.widen (k := 5) (n := 55) (Nat.le_of_ble_eq_true rfl) (Nat.le_of_ble_eq_true rfl) ?_
          refine W.eq (g2 := F0 m 137 ls [.ref ((fun _ => v23) (4 + 1)), .ref (ad16 2 1 1)]) rfl ?_
          refine g_ladd (ex := [(v23, .inr (3, [.int a1, .int a2, .int a3, .int a4, .int 0]))]) (K := 1) (w := 1) (n := n21) (u := (fun _ => v23)) (X := (fldX 5 [a1, a2, a3, a4, 0])) (rest := []) hC hP hD hS1 hA hDj hok22 (hex_5 v23 a1 a2 a3 a4 0) rfl rfl rfl wq_1311 (by decide) (fun j => ⟨_, rfl⟩) wq_422 hl ⟨Nat.le_of_ble_eq_true rfl, Nat.le_of_ble_eq_true rfl⟩ (Nat.le_of_ble_eq_true rfl) dX8_addLane_137 ⟨Nat.le_of_ble_eq_true rfl, Nat.le_of_ble_eq_true rfl⟩ (fun a25 H locs hS => ?_)
          refine W.widen (k := 6) (n := 88) (Nat.le_of_ble_eq_true rfl) (Nat.le_of_ble_eq_true rfl) ?_
          obtain ⟨ad26, ead26⟩ : ∃ z : AD, z = adN ad16 1 1 n21 a25 (fun _ => v23) := ⟨_, rfl⟩
          rw [← ead26] at hS
          obtain ⟨V27, eV27⟩ : ∃ z : VS, z = VN V17 1 1 n21 (fldX 5 [a1, a2, a3, a4, 0]) := ⟨_, rfl⟩
          rw [← eV27] at hS
          have h := h V27 eV27
          have hag28 : ∀ k w i : Nat, k ≠ 3 → (k < 4 ∨ 9 < k) → ad26 k w i = ad k w i := fun k w i h1 h2 => by rw [ead26, adN_ne (by decide) h1 h2]; exact hag18 k w i h1 h2
          rw [show ad16 0 0 0 = ad26 0 0 0 from by rw [ead26, adN_ne (by decide) (by decide) (by decide)]] at hl
          refine W.eq (g2 := F0 m 140 ls [.int 1]) rfl ?_
          refine lv_pop hC.1 hC.2.1 dX8_addLane_140 rfl ?_
          refine lv_iload hC.1 hC.2.1 dX8_addLane_141 (lv_at hl 0 rfl) ?_
          exact vx_ret (g_iretN hC hr hlk hS hag28 h dX8_addLane_143)
        · have h := h.2 c29
          exact g_throw (n := 3) hlf hC hS hl htab hlk (by decide +kernel) hat_3 hbt_3 hgd_3 wq_339 wq_51 sr_63 dX8_addLane_85 dX8_addLane_88 dX8_addLane_89 dX8_addLane_91 dX8_addLane_94 ⟨Nat.le_of_ble_eq_true rfl, Nat.le_of_ble_eq_true rfl, Nat.le_of_ble_eq_true rfl, Nat.le_of_ble_eq_true rfl⟩ ⟨Nat.le_of_ble_eq_true rfl, Nat.le_of_ble_eq_true rfl⟩ h
      · have h := h.1 c30
        exact g_throw (n := 2) hlf hC hS hl htab hlk (by decide +kernel) hat_2 hbt_2 hgd_2 wq_516 wq_58 sr_58 dX8_addLane_56 dX8_addLane_59 dX8_addLane_60 dX8_addLane_62 dX8_addLane_65 ⟨Nat.le_of_ble_eq_true rfl, Nat.le_of_ble_eq_true rfl, Nat.le_of_ble_eq_true rfl, Nat.le_of_ble_eq_true rfl⟩ ⟨Nat.le_of_ble_eq_true rfl, Nat.le_of_ble_eq_true rfl⟩ h
    · have h := h.1 c31
      exact g_throw (n := 2) hlf hC hS hl htab hlk (by decide +kernel) hat_2 hbt_2 hgd_2 wq_516 wq_58 sr_56 dX8_addLane_35 dX8_addLane_38 dX8_addLane_39 dX8_addLane_41 dX8_addLane_44 ⟨Nat.le_of_ble_eq_true rfl, Nat.le_of_ble_eq_true rfl, Nat.le_of_ble_eq_true rfl, Nat.le_of_ble_eq_true rfl⟩ ⟨Nat.le_of_ble_eq_true rfl, Nat.le_of_ble_eq_true rfl⟩ h
  · have h := h.1 c32
    exact g_throw (n := 2) hlf hC hS hl htab hlk (by decide +kernel) hat_2 hbt_2 hgd_2 wq_516 wq_58 sr_49 dX8_addLane_15 dX8_addLane_18 dX8_addLane_19 dX8_addLane_21 dX8_addLane_24 ⟨Nat.le_of_ble_eq_true rfl, Nat.le_of_ble_eq_true rfl, Nat.le_of_ble_eq_true rfl, Nat.le_of_ble_eq_true rfl⟩ ⟨Nat.le_of_ble_eq_true rfl, Nat.le_of_ble_eq_true rfl⟩ h
def wp_X8_addBook (ks : List KY) (a1 : Int32) (V : VS) (post : Int32 → List KY × VS → Prop) (xp : Nat → VS → Prop) : Prop := (wp_X8_isWithin ks a1 0 5 V (fun r2 V1 => ((r2 = 0 → (xp 2 V1)) ∧ (¬ (r2 = 0) → ((0, 0, 0) ∈ ks ∧ (1, 0, 0) ∈ ks ∧ (2, 0, 2) ∈ ks ∧ ∀ y6 : Int32, y6 = V1 2 0 2 2 0 → (y6 < 24 → (∃ n7 : Nat, AddOK ks V1 0 2 n7 ∧ ∀ V15 : VS, V15 = VN V1 2 0 n7 (fldX 6 [y6, a1, 0, (-1), (-1), 0]) → (0, 0, 0) ∈ (ksN ks 2 0 n7) ∧ (1, 1, 0) ∈ (ksN ks 2 0 n7) ∧ ∃ n19 : Nat, AddOK (ksN ks 2 0 n7) V15 1 2 n19 ∧ ∀ V27 : VS, V27 = VN V15 2 1 n19 (fldX 6 [y6, a1, 0, (-1), (-1), 0]) → post y6 ((ksN (ksN ks 2 0 n7) 2 1 n19), V27))) ∧ (¬ (y6 < 24) → (xp 3 V1)))))))
set_option maxHeartbeats 4000000 in
set_option maxRecDepth 100000 in
theorem c_X8_addBook (l : Launch) (hlf : l.stackTraces = false) (G : GG) (ks : List KY) (ad : AD) (a1 : Int32) (V : VS) (post : Int32 → List KY × VS → Prop) (xp : Nat → VS → Prop) (h : wp_X8_addBook ks a1 V post xp) (sz : Nat) : vx_Met l yX8_addBook (ws_ yX8_addBook cX8_addBook 3 (some .int)) ({ frames := 7, cells := 8, slots := 102, locals := 195 }) (mPc [.ref (ad 0 0 0), .int a1] G ks ad V sz) (mQn post G ks ad sz) (mX xp G ks ad sz) 8 102 (mA ks ad sz) := by
  refine g_xmet (own := RX8) (by decide) rfl (Nat.le_of_ble_eq_true rfl) ?_
  intro p e s m args below meth c ls hC hsz hr hlk hin hS ha hl htab
  have hl : lv_has ls 3 [(0, .ref (ad 0 0 0)), (1, .int a1)] := hl
  unfold wp_X8_addBook at h
  refine lv_iload_n hC.1 hC.2.1 dX8_addBook_0 rfl (lv_at hl 1 rfl) ?_
  refine lv_iconst (v := 0) hC.1 hC.2.1 dX8_addBook_1 (by decide) ?_
  refine lv_iconst (v := 5) hC.1 hC.2.1 dX8_addBook_2 (by decide) ?_
  refine g_calli0 hS (g_runS (n := 3) (rest := []) (As := [.int a1, .int 0, .int 5]) hC hS (c_X8_isWithin l G ks ad a1 0 5 V _ h _) (gIS wq_532 wq_533 wq_39 wq_534) ⟨⟨by decide +kernel, by decide +kernel, by decide +kernel⟩, rfl, rfl, Nat.le_of_ble_eq_true rfl, Nat.le_of_ble_eq_true rfl⟩ rfl hl rfl (Nat.le_of_ble_eq_true rfl) dX8_addBook_3 ⟨Nat.le_of_ble_eq_true rfl, Nat.le_of_ble_eq_true rfl⟩) (fun r2 V1 H locs h hS => ?_)
  refine lv_if_ne (tgt := 19) hC.1 hC.2.1 dX8_addBook_6 (by decide) (fun c30 => ?_) (fun c30 => ?_)
  · have h := h.2 c30
    refine lv_aload_n hC.1 hC.2.1 dX8_addBook_19 rfl (lv_at hl 0 rfl) ?_
    obtain ⟨hk3, h⟩ := h
    refine gf_0_0 hC hS hk3 wq_168 dX8_addBook_20 ?_
    obtain ⟨hk4, h⟩ := h
    refine gn_1_2 hC hS hk4 wq_139 dX8_addBook_23 ?_
    obtain ⟨hk5, h⟩ := h
    refine g_lsize hC hS hk5 wq_338 hl ⟨Nat.le_of_ble_eq_true rfl, Nat.le_of_ble_eq_true rfl, Nat.zero_le _⟩ (Nat.le_of_ble_eq_true rfl) dX8_addBook_26 ⟨Nat.le_of_ble_eq_true rfl, Nat.le_of_ble_eq_true rfl⟩ (fun H locs hS => ?_)
    refine lv_topi (fun y6 ey6 => ?_)
    have h := h y6 ey6
    refine lv_istore_n (lv' := [(2, .int y6), (0, .ref (ad 0 0 0)), (1, .int a1)]) hC.1 hC.2.1 dX8_addBook_29 rfl hl (by decide) rfl (fun ls hl => ?_)
    refine lv_iload_n hC.1 hC.2.1 dX8_addBook_30 rfl (lv_at hl 0 rfl) ?_
    refine lv_bipush (v := 24) hC.1 hC.2.1 dX8_addBook_31 (by decide) ?_
    refine lv_icmp_lt (tgt := 46) hC.1 hC.2.1 dX8_addBook_33 (by decide) (fun c29 => ?_) (fun c29 => ?_)
    · have h := h.1 c29
      refine lv_aload_n hC.1 hC.2.1 dX8_addBook_46 rfl (lv_at hl 1 rfl) ?_
      refine gf_0_0 hC hS hk3 wq_168 dX8_addBook_47 ?_
      refine gn_1_2 hC hS hk4 wq_139 dX8_addBook_50 ?_
      obtain ⟨n7, hok8, h⟩ := h
      obtain ⟨hP, hS1, hDj, hA⟩ := hS
      have hD := hDj.D (G := G) (V := V1)
      refine va_new (ci := 1) (fs := [.int 0, .int 0, .null, .int 0, .int 0, .int 0]) (C := RX0) (T := TX0) (N := 6) hC.1 hC.2.1 hC.2.2.2.2.1 ina_X0 tyX0 tyX0_ok hC.2.2.2.1 (hC.2.2.2.2.1 _ wq_659) (hC.2.2.2.2.1 _ wq_660) (hC.2.2.2.2.1 _ wq_62) hC.2.2.2.2.2.1.1 hP hD hS1 hA rfl df_X0 (Nat.le_of_ble_eq_true rfl) (Nat.le_of_ble_eq_true rfl) dX8_addBook_53 (fun v9 H hP hD hS1 => ?_)
      refine W.widen (k := 1) (n := 6) (Nat.le_of_ble_eq_true rfl) (Nat.le_of_ble_eq_true rfl) ?_
      refine lv_dup hC.1 hC.2.1 dX8_addBook_56 rfl ?_
      refine lv_iload_n hC.1 hC.2.1 dX8_addBook_57 rfl (lv_at hl 0 rfl) ?_
      refine lv_iload_n hC.1 hC.2.1 dX8_addBook_58 rfl (lv_at hl 2 rfl) ?_
      refine r_init (n := 2) (As := [.int y6, .int a1]) (rest := [.ref v9, .ref (ad 2 0 2)]) (ws := pic G ks ad V1) (x := (v9, .inr (1, [.int 0, .int 0, .null, .int 0, .int 0, .int 0]))) hC hP hD hS1 hA (c_X0_init l G v9 _ y6 a1) wq_661 wq_662 wq_62 wq_663 rfl ⟨⟨by decide +kernel, by decide +kernel, by decide +kernel⟩, rfl, rfl, Nat.le_of_ble_eq_true rfl, Nat.le_of_ble_eq_true rfl⟩ rfl hl rfl (Nat.le_of_ble_eq_true rfl) dX8_addBook_59 ⟨Nat.le_of_ble_eq_true rfl, Nat.le_of_ble_eq_true rfl⟩ (fun u10 H locs hP hD hS1 => ?_)
      obtain ⟨q11, q12⟩ := u10
      refine W.widen (k := 3) (n := 18) (Nat.le_of_ble_eq_true rfl) (Nat.le_of_ble_eq_true rfl) ?_
      refine W.eq (g2 := F0 m 62 ls [.ref ((uB v9 q11 q12) (4 + 2)), .ref (ad 2 0 2)]) rfl ?_
      refine g_ladd (ex := [(v9, .inr (1, [.int y6, .int a1, .ref q11, .int (-1), .int (-1), .int 0])), (q11, .inr (4, [.ref q12, .int 0])), (q12, .inl (G.2.1, 10, .inl (fun _ => (0 : Int32))))]) (K := 2) (w := 0) (n := n7) (u := (uB v9 q11 q12)) (X := (fldX 6 [y6, a1, 0, (-1), (-1), 0])) (rest := []) hC hP hD hS1 hA hDj hok8 (hex_6 v9 q11 q12 y6 a1 (-1) (-1) 0) rfl rfl rfl wq_1312 (by decide) (fun j => ⟨_, rfl⟩) wq_422 hl ⟨Nat.le_of_ble_eq_true rfl, Nat.le_of_ble_eq_true rfl⟩ (Nat.le_of_ble_eq_true rfl) dX8_addBook_62 ⟨Nat.le_of_ble_eq_true rfl, Nat.le_of_ble_eq_true rfl⟩ (fun a13 H locs hS => ?_)
      refine W.widen (k := 4) (n := 51) (Nat.le_of_ble_eq_true rfl) (Nat.le_of_ble_eq_true rfl) ?_
      obtain ⟨ad14, ead14⟩ : ∃ z : AD, z = adN ad 2 0 n7 a13 (uB v9 q11 q12) := ⟨_, rfl⟩
      rw [← ead14] at hS
      obtain ⟨V15, eV15⟩ : ∃ z : VS, z = VN V1 2 0 n7 (fldX 6 [y6, a1, 0, (-1), (-1), 0]) := ⟨_, rfl⟩
      rw [← eV15] at hS
      have h := h V15 eV15
      have hag16 : ∀ k w i : Nat, k ≠ 3 → (k < 4 ∨ 9 < k) → ad14 k w i = ad k w i := fun k w i h1 h2 => by rw [ead14, adN_ne (by decide) h1 h2]
      rw [show ad 0 0 0 = ad14 0 0 0 from by rw [ead14, adN_ne (by decide) (by decide) (by decide)]] at hl
      refine W.eq (g2 := F0 m 65 ls [.int 1]) rfl ?_
      refine lv_pop hC.1 hC.2.1 dX8_addBook_65 rfl ?_
      refine lv_aload_n hC.1 hC.2.1 dX8_addBook_66 rfl (lv_at hl 1 rfl) ?_
      obtain ⟨hk17, h⟩ := h
      refine gf_0_1 hC hS hk17 wq_169 dX8_addBook_67 ?_
      obtain ⟨hk18, h⟩ := h
      refine gn_1_2 hC hS hk18 wq_139 dX8_addBook_70 ?_
      obtain ⟨n19, hok20, h⟩ := h
      obtain ⟨hP, hS1, hDj, hA⟩ := hS
      have hD := hDj.D (G := G) (V := V15)
      refine va_new (ci := 1) (fs := [.int 0, .int 0, .null, .int 0, .int 0, .int 0]) (C := RX0) (T := TX0) (N := 6) hC.1 hC.2.1 hC.2.2.2.2.1 ina_X0 tyX0 tyX0_ok hC.2.2.2.1 (hC.2.2.2.2.1 _ wq_659) (hC.2.2.2.2.1 _ wq_660) (hC.2.2.2.2.1 _ wq_62) hC.2.2.2.2.2.1.1 hP hD hS1 hA rfl df_X0 (Nat.le_of_ble_eq_true rfl) (Nat.le_of_ble_eq_true rfl) dX8_addBook_73 (fun v21 H hP hD hS1 => ?_)
      refine W.widen (k := 5) (n := 57) (Nat.le_of_ble_eq_true rfl) (Nat.le_of_ble_eq_true rfl) ?_
      refine lv_dup hC.1 hC.2.1 dX8_addBook_76 rfl ?_
      refine lv_iload_n hC.1 hC.2.1 dX8_addBook_77 rfl (lv_at hl 0 rfl) ?_
      refine lv_iload_n hC.1 hC.2.1 dX8_addBook_78 rfl (lv_at hl 2 rfl) ?_
      refine r_init (n := 2) (As := [.int y6, .int a1]) (rest := [.ref v21, .ref (ad14 2 1 2)]) (ws := pic G (ksN ks 2 0 n7) ad14 V15) (x := (v21, .inr (1, [.int 0, .int 0, .null, .int 0, .int 0, .int 0]))) hC hP hD hS1 hA (c_X0_init l G v21 _ y6 a1) wq_661 wq_662 wq_62 wq_663 rfl ⟨⟨by decide +kernel, by decide +kernel, by decide +kernel⟩, rfl, rfl, Nat.le_of_ble_eq_true rfl, Nat.le_of_ble_eq_true rfl⟩ rfl hl rfl (Nat.le_of_ble_eq_true rfl) dX8_addBook_79 ⟨Nat.le_of_ble_eq_true rfl, Nat.le_of_ble_eq_true rfl⟩ (fun u22 H locs hP hD hS1 => ?_)
      obtain ⟨q23, q24⟩ := u22
      refine W.widen (k := 7) (n := 69) (Nat.le_of_ble_eq_true rfl) (Nat.le_of_ble_eq_true rfl) ?_
      refine W.eq (g2 := F0 m 82 ls [.ref ((uB v21 q23 q24) (4 + 2)), .ref (ad14 2 1 2)]) rfl ?_
      refine g_ladd (ex := [(v21, .inr (1, [.int y6, .int a1, .ref q23, .int (-1), .int (-1), .int 0])), (q23, .inr (4, [.ref q24, .int 0])), (q24, .inl (G.2.1, 10, .inl (fun _ => (0 : Int32))))]) (K := 2) (w := 1) (n := n19) (u := (uB v21 q23 q24)) (X := (fldX 6 [y6, a1, 0, (-1), (-1), 0])) (rest := []) hC hP hD hS1 hA hDj hok20 (hex_6 v21 q23 q24 y6 a1 (-1) (-1) 0) rfl rfl rfl wq_1312 (by decide) (fun j => ⟨_, rfl⟩) wq_422 hl ⟨Nat.le_of_ble_eq_true rfl, Nat.le_of_ble_eq_true rfl⟩ (Nat.le_of_ble_eq_true rfl) dX8_addBook_82 ⟨Nat.le_of_ble_eq_true rfl, Nat.le_of_ble_eq_true rfl⟩ (fun a25 H locs hS => ?_)
      refine W.widen (k := 8) (n := 102) (Nat.le_of_ble_eq_true rfl) (Nat.le_of_ble_eq_true rfl) ?_
      obtain ⟨ad26, ead26⟩ : ∃ z : AD, z = adN ad14 2 1 n19 a25 (uB v21 q23 q24) := ⟨_, rfl⟩
      rw [← ead26] at hS
      obtain ⟨V27, eV27⟩ : ∃ z : VS, z = VN V15 2 1 n19 (fldX 6 [y6, a1, 0, (-1), (-1), 0]) := ⟨_, rfl⟩
      rw [← eV27] at hS
      have h := h V27 eV27
      have hag28 : ∀ k w i : Nat, k ≠ 3 → (k < 4 ∨ 9 < k) → ad26 k w i = ad k w i := fun k w i h1 h2 => by rw [ead26, adN_ne (by decide) h1 h2]; exact hag16 k w i h1 h2
      rw [show ad14 0 0 0 = ad26 0 0 0 from by rw [ead26, adN_ne (by decide) (by decide) (by decide)]] at hl
      refine W.eq (g2 := F0 m 85 ls [.int 1]) rfl ?_
      refine lv_pop hC.1 hC.2.1 dX8_addBook_85 rfl ?_
      refine lv_iload_n hC.1 hC.2.1 dX8_addBook_86 rfl (lv_at hl 0 rfl) ?_
      exact vx_ret (g_iretN hC hr hlk hS hag28 h dX8_addBook_87)
    · have h := h.2 c29
      exact g_throw (n := 3) hlf hC hS hl htab hlk (by decide +kernel) hat_3 hbt_3 hgd_3 wq_339 wq_51 sr_115 dX8_addBook_36 dX8_addBook_39 dX8_addBook_40 dX8_addBook_42 dX8_addBook_45 ⟨Nat.le_of_ble_eq_true rfl, Nat.le_of_ble_eq_true rfl, Nat.le_of_ble_eq_true rfl, Nat.le_of_ble_eq_true rfl⟩ ⟨Nat.le_of_ble_eq_true rfl, Nat.le_of_ble_eq_true rfl⟩ h
  · have h := h.1 c30
    exact g_throw (n := 2) hlf hC hS hl htab hlk (by decide +kernel) hat_2 hbt_2 hgd_2 wq_516 wq_58 sr_110 dX8_addBook_9 dX8_addBook_12 dX8_addBook_13 dX8_addBook_15 dX8_addBook_18 ⟨Nat.le_of_ble_eq_true rfl, Nat.le_of_ble_eq_true rfl, Nat.le_of_ble_eq_true rfl, Nat.le_of_ble_eq_true rfl⟩ ⟨Nat.le_of_ble_eq_true rfl, Nat.le_of_ble_eq_true rfl⟩ h
def wp_X8_addReader (ks : List KY) (a1 : Int32) (a2 : Int32) (a3 : Int32) (V : VS) (post : Int32 → List KY × VS → Prop) (xp : Nat → VS → Prop) : Prop := ((0, 0, 0) ∈ ks ∧ wp_X8_needHalt ks a1 V (fun V1 => (wp_X8_isWithin ks a2 0 5 V1 (fun r4 V3 => ((r4 = 0 → (xp 2 V3)) ∧ (¬ (r4 = 0) → (wp_X8_isWithin ks a3 1 30 V3 (fun r6 V5 => ((r6 = 0 → (xp 2 V5)) ∧ (¬ (r6 = 0) → ((1, 0, 0) ∈ ks ∧ (2, 0, 3) ∈ ks ∧ ∀ y9 : Int32, y9 = V5 2 0 3 2 0 → (y9 < 10 → (∃ n10 : Nat, AddOK ks V5 0 3 n10 ∧ ∀ V16 : VS, V16 = VN V5 3 0 n10 (fldX 7 [y9, a1, a2, a3, 0, 0, 0, 0]) → (0, 0, 0) ∈ (ksN ks 3 0 n10) ∧ (1, 1, 0) ∈ (ksN ks 3 0 n10) ∧ ∃ n20 : Nat, AddOK (ksN ks 3 0 n10) V16 1 3 n20 ∧ ∀ V26 : VS, V26 = VN V16 3 1 n20 (fldX 7 [y9, a1, a2, a3, 0, 0, 0, 0]) → post y9 ((ksN (ksN ks 3 0 n10) 3 1 n20), V26))) ∧ (¬ (y9 < 10) → (xp 3 V5)))))))))))) xp)
set_option maxHeartbeats 4000000 in
set_option maxRecDepth 100000 in
theorem c_X8_addReader (l : Launch) (hlf : l.stackTraces = false) (G : GG) (ks : List KY) (ad : AD) (a1 : Int32) (a2 : Int32) (a3 : Int32) (V : VS) (post : Int32 → List KY × VS → Prop) (xp : Nat → VS → Prop) (h : wp_X8_addReader ks a1 a2 a3 V post xp) (sz : Nat) : vx_Met l yX8_addReader (ws_ yX8_addReader cX8_addReader 5 (some .int)) ({ frames := 8, cells := 5, slots := 88, locals := 195 }) (mPc [.ref (ad 0 0 0), .int a1, .int a2, .int a3] G ks ad V sz) (mQn post G ks ad sz) (mX xp G ks ad sz) 5 88 (mA ks ad sz) := by
  refine g_xmet (own := RX8) (by decide) rfl (Nat.le_of_ble_eq_true rfl) ?_
  intro p e s m args below meth c ls hC hsz hr hlk hin hS ha hl htab
  have hl : lv_has ls 5 [(0, .ref (ad 0 0 0)), (1, .int a1), (2, .int a2), (3, .int a3)] := hl
  unfold wp_X8_addReader at h
  refine lv_aload_n hC.1 hC.2.1 dX8_addReader_0 rfl (lv_at hl 0 rfl) ?_
  refine lv_iload_n hC.1 hC.2.1 dX8_addReader_1 rfl (lv_at hl 1 rfl) ?_
  obtain ⟨hk2, h⟩ := h
  refine g_xcallv hS htab hlk ⟨Nat.le_of_ble_eq_true rfl, Nat.le_of_ble_eq_true rfl⟩ (g_xrunV (n := 1) (rest := []) (As := [.int a1]) (C := RX8) (T := TX8) (N := 2) hC hS hk2 rfl rfl (c_X8_needHalt l hlf G ks ad a1 V _ _ h _) (gI wq_493 wq_495 wq_10 wq_39 wq_496) rfl ⟨⟨by decide +kernel, by decide +kernel, by decide +kernel⟩, rfl, rfl, Nat.le_of_ble_eq_true rfl, Nat.le_of_ble_eq_true rfl⟩ rfl hl rfl (Nat.le_of_ble_eq_true rfl) dX8_addReader_2 ⟨Nat.le_of_ble_eq_true rfl, Nat.le_of_ble_eq_true rfl⟩) (fun V1 H locs h hS => ?_)
  refine W.widen (k := 1) (n := 6) (Nat.le_of_ble_eq_true rfl) (Nat.le_of_ble_eq_true rfl) ?_
  refine lv_iload_n hC.1 hC.2.1 dX8_addReader_5 rfl (lv_at hl 2 rfl) ?_
  refine lv_iconst (v := 0) hC.1 hC.2.1 dX8_addReader_6 (by decide) ?_
  refine lv_iconst (v := 5) hC.1 hC.2.1 dX8_addReader_7 (by decide) ?_
  refine g_calli0 hS (g_runS (n := 3) (rest := []) (As := [.int a2, .int 0, .int 5]) hC hS (c_X8_isWithin l G ks ad a2 0 5 V1 _ h _) (gIS wq_532 wq_533 wq_39 wq_534) ⟨⟨by decide +kernel, by decide +kernel, by decide +kernel⟩, rfl, rfl, Nat.le_of_ble_eq_true rfl, Nat.le_of_ble_eq_true rfl⟩ rfl hl rfl (Nat.le_of_ble_eq_true rfl) dX8_addReader_8 ⟨Nat.le_of_ble_eq_true rfl, Nat.le_of_ble_eq_true rfl⟩) (fun r4 V3 H locs h hS => ?_)
  refine lv_if_ne (tgt := 24) hC.1 hC.2.1 dX8_addReader_11 (by decide) (fun c30 => ?_) (fun c30 => ?_)
  · have h := h.2 c30
    refine lv_iload_n hC.1 hC.2.1 dX8_addReader_24 rfl (lv_at hl 3 rfl) ?_
    refine lv_iconst (v := 1) hC.1 hC.2.1 dX8_addReader_25 (by decide) ?_
    refine lv_bipush (v := 30) hC.1 hC.2.1 dX8_addReader_26 (by decide) ?_
    refine g_calli0 hS (g_runS (n := 3) (rest := []) (As := [.int a3, .int 1, .int 30]) hC hS (c_X8_isWithin l G ks ad a3 1 30 V3 _ h _) (gIS wq_532 wq_533 wq_39 wq_534) ⟨⟨by decide +kernel, by decide +kernel, by decide +kernel⟩, rfl, rfl, Nat.le_of_ble_eq_true rfl, Nat.le_of_ble_eq_true rfl⟩ rfl hl rfl (Nat.le_of_ble_eq_true rfl) dX8_addReader_28 ⟨Nat.le_of_ble_eq_true rfl, Nat.le_of_ble_eq_true rfl⟩) (fun r6 V5 H locs h hS => ?_)
    refine lv_if_ne (tgt := 44) hC.1 hC.2.1 dX8_addReader_31 (by decide) (fun c29 => ?_) (fun c29 => ?_)
    · have h := h.2 c29
      refine lv_aload_n hC.1 hC.2.1 dX8_addReader_44 rfl (lv_at hl 0 rfl) ?_
      refine gf_0_0 hC hS hk2 wq_168 dX8_addReader_45 ?_
      obtain ⟨hk7, h⟩ := h
      refine gn_1_3 hC hS hk7 wq_141 dX8_addReader_48 ?_
      obtain ⟨hk8, h⟩ := h
      refine g_lsize hC hS hk8 wq_338 hl ⟨Nat.le_of_ble_eq_true rfl, Nat.le_of_ble_eq_true rfl, Nat.zero_le _⟩ (Nat.le_of_ble_eq_true rfl) dX8_addReader_51 ⟨Nat.le_of_ble_eq_true rfl, Nat.le_of_ble_eq_true rfl⟩ (fun H locs hS => ?_)
      refine lv_topi (fun y9 ey9 => ?_)
      have h := h y9 ey9
      refine lv_istore (lv' := [(4, .int y9), (0, .ref (ad 0 0 0)), (1, .int a1), (2, .int a2), (3, .int a3)]) hC.1 hC.2.1 dX8_addReader_54 hl (by decide) rfl (fun ls hl => ?_)
      refine lv_iload hC.1 hC.2.1 dX8_addReader_56 (lv_at hl 0 rfl) ?_
      refine lv_bipush (v := 10) hC.1 hC.2.1 dX8_addReader_58 (by decide) ?_
      refine lv_icmp_lt (tgt := 73) hC.1 hC.2.1 dX8_addReader_60 (by decide) (fun c28 => ?_) (fun c28 => ?_)
      · have h := h.1 c28
        refine lv_aload_n hC.1 hC.2.1 dX8_addReader_73 rfl (lv_at hl 1 rfl) ?_
        refine gf_0_0 hC hS hk2 wq_168 dX8_addReader_74 ?_
        refine gn_1_3 hC hS hk7 wq_141 dX8_addReader_77 ?_
        obtain ⟨n10, hok11, h⟩ := h
        obtain ⟨hP, hS1, hDj, hA⟩ := hS
        have hD := hDj.D (G := G) (V := V5)
        refine va_new (ci := 5) (fs := [.int 0, .int 0, .int 0, .int 0, .int 0, .int 0, .int 0, .int 0]) (C := RX4) (T := TX4) (N := 8) hC.1 hC.2.1 hC.2.2.2.2.1 ina_X4 tyX4 tyX4_ok hC.2.2.2.1 (hC.2.2.2.2.1 _ wq_714) (hC.2.2.2.2.1 _ wq_715) (hC.2.2.2.2.1 _ wq_64) hC.2.2.2.2.2.1.1 hP hD hS1 hA rfl df_X4 (Nat.le_of_ble_eq_true rfl) (Nat.le_of_ble_eq_true rfl) dX8_addReader_80 (fun v12 H hP hD hS1 => ?_)
        refine W.widen (k := 2) (n := 14) (Nat.le_of_ble_eq_true rfl) (Nat.le_of_ble_eq_true rfl) ?_
        refine lv_dup hC.1 hC.2.1 dX8_addReader_83 rfl ?_
        refine lv_iload hC.1 hC.2.1 dX8_addReader_84 (lv_at hl 0 rfl) ?_
        refine lv_iload_n hC.1 hC.2.1 dX8_addReader_86 rfl (lv_at hl 2 rfl) ?_
        refine lv_iload_n hC.1 hC.2.1 dX8_addReader_87 rfl (lv_at hl 3 rfl) ?_
        refine lv_iload_n hC.1 hC.2.1 dX8_addReader_88 rfl (lv_at hl 4 rfl) ?_
        refine r_init (n := 4) (As := [.int y9, .int a1, .int a2, .int a3]) (rest := [.ref v12, .ref (ad 2 0 3)]) (ws := pic G ks ad V5) (x := (v12, .inr (5, [.int 0, .int 0, .int 0, .int 0, .int 0, .int 0, .int 0, .int 0]))) hC hP hD hS1 hA (c_X4_init l G v12 _ y9 a1 a2 a3) wq_716 wq_717 wq_64 wq_718 rfl ⟨⟨by decide +kernel, by decide +kernel, by decide +kernel⟩, rfl, rfl, Nat.le_of_ble_eq_true rfl, Nat.le_of_ble_eq_true rfl⟩ rfl hl rfl (Nat.le_of_ble_eq_true rfl) dX8_addReader_89 ⟨Nat.le_of_ble_eq_true rfl, Nat.le_of_ble_eq_true rfl⟩ (fun u13 H locs hP hD hS1 => ?_)
        refine W.widen (k := 2) (n := 14) (Nat.le_of_ble_eq_true rfl) (Nat.le_of_ble_eq_true rfl) ?_
        refine W.eq (g2 := F0 m 92 ls [.ref ((fun _ => v12) (4 + 3)), .ref (ad 2 0 3)]) rfl ?_
        refine g_ladd (ex := [(v12, .inr (5, [.int y9, .int a1, .int a2, .int a3, .int 0, .int 0, .int 0, .int 0]))]) (K := 3) (w := 0) (n := n10) (u := (fun _ => v12)) (X := (fldX 7 [y9, a1, a2, a3, 0, 0, 0, 0])) (rest := []) hC hP hD hS1 hA hDj hok11 (hex_7 v12 y9 a1 a2 a3 0 0 0 0) rfl rfl rfl wq_1314 (by decide) (fun j => ⟨_, rfl⟩) wq_422 hl ⟨Nat.le_of_ble_eq_true rfl, Nat.le_of_ble_eq_true rfl⟩ (Nat.le_of_ble_eq_true rfl) dX8_addReader_92 ⟨Nat.le_of_ble_eq_true rfl, Nat.le_of_ble_eq_true rfl⟩ (fun a14 H locs hS => ?_)
        refine W.widen (k := 3) (n := 47) (Nat.le_of_ble_eq_true rfl) (Nat.le_of_ble_eq_true rfl) ?_
        obtain ⟨ad15, ead15⟩ : ∃ z : AD, z = adN ad 3 0 n10 a14 (fun _ => v12) := ⟨_, rfl⟩
        rw [← ead15] at hS
        obtain ⟨V16, eV16⟩ : ∃ z : VS, z = VN V5 3 0 n10 (fldX 7 [y9, a1, a2, a3, 0, 0, 0, 0]) := ⟨_, rfl⟩
        rw [← eV16] at hS
        have h := h V16 eV16
        have hag17 : ∀ k w i : Nat, k ≠ 3 → (k < 4 ∨ 9 < k) → ad15 k w i = ad k w i := fun k w i h1 h2 => by rw [ead15, adN_ne (by decide) h1 h2]
        rw [show ad 0 0 0 = ad15 0 0 0 from by rw [ead15, adN_ne (by decide) (by decide) (by decide)]] at hl
        refine W.eq (g2 := F0 m 95 ls [.int 1]) rfl ?_
        refine lv_pop hC.1 hC.2.1 dX8_addReader_95 rfl ?_
        refine lv_aload_n hC.1 hC.2.1 dX8_addReader_96 rfl (lv_at hl 1 rfl) ?_
        obtain ⟨hk18, h⟩ := h
        refine gf_0_1 hC hS hk18 wq_169 dX8_addReader_97 ?_
        obtain ⟨hk19, h⟩ := h
        refine gn_1_3 hC hS hk19 wq_141 dX8_addReader_100 ?_
        obtain ⟨n20, hok21, h⟩ := h
        obtain ⟨hP, hS1, hDj, hA⟩ := hS
        have hD := hDj.D (G := G) (V := V16)
        refine va_new (ci := 5) (fs := [.int 0, .int 0, .int 0, .int 0, .int 0, .int 0, .int 0, .int 0]) (C := RX4) (T := TX4) (N := 8) hC.1 hC.2.1 hC.2.2.2.2.1 ina_X4 tyX4 tyX4_ok hC.2.2.2.1 (hC.2.2.2.2.1 _ wq_714) (hC.2.2.2.2.1 _ wq_715) (hC.2.2.2.2.1 _ wq_64) hC.2.2.2.2.2.1.1 hP hD hS1 hA rfl df_X4 (Nat.le_of_ble_eq_true rfl) (Nat.le_of_ble_eq_true rfl) dX8_addReader_103 (fun v22 H hP hD hS1 => ?_)
        refine W.widen (k := 4) (n := 55) (Nat.le_of_ble_eq_true rfl) (Nat.le_of_ble_eq_true rfl) ?_
        refine lv_dup hC.1 hC.2.1 dX8_addReader_106 rfl ?_
        refine lv_iload hC.1 hC.2.1 dX8_addReader_107 (lv_at hl 0 rfl) ?_
        refine lv_iload_n hC.1 hC.2.1 dX8_addReader_109 rfl (lv_at hl 2 rfl) ?_
        refine lv_iload_n hC.1 hC.2.1 dX8_addReader_110 rfl (lv_at hl 3 rfl) ?_
        refine lv_iload_n hC.1 hC.2.1 dX8_addReader_111 rfl (lv_at hl 4 rfl) ?_
        refine r_init (n := 4) (As := [.int y9, .int a1, .int a2, .int a3]) (rest := [.ref v22, .ref (ad15 2 1 3)]) (ws := pic G (ksN ks 3 0 n10) ad15 V16) (x := (v22, .inr (5, [.int 0, .int 0, .int 0, .int 0, .int 0, .int 0, .int 0, .int 0]))) hC hP hD hS1 hA (c_X4_init l G v22 _ y9 a1 a2 a3) wq_716 wq_717 wq_64 wq_718 rfl ⟨⟨by decide +kernel, by decide +kernel, by decide +kernel⟩, rfl, rfl, Nat.le_of_ble_eq_true rfl, Nat.le_of_ble_eq_true rfl⟩ rfl hl rfl (Nat.le_of_ble_eq_true rfl) dX8_addReader_112 ⟨Nat.le_of_ble_eq_true rfl, Nat.le_of_ble_eq_true rfl⟩ (fun u23 H locs hP hD hS1 => ?_)
        refine W.widen (k := 4) (n := 55) (Nat.le_of_ble_eq_true rfl) (Nat.le_of_ble_eq_true rfl) ?_
        refine W.eq (g2 := F0 m 115 ls [.ref ((fun _ => v22) (4 + 3)), .ref (ad15 2 1 3)]) rfl ?_
        refine g_ladd (ex := [(v22, .inr (5, [.int y9, .int a1, .int a2, .int a3, .int 0, .int 0, .int 0, .int 0]))]) (K := 3) (w := 1) (n := n20) (u := (fun _ => v22)) (X := (fldX 7 [y9, a1, a2, a3, 0, 0, 0, 0])) (rest := []) hC hP hD hS1 hA hDj hok21 (hex_7 v22 y9 a1 a2 a3 0 0 0 0) rfl rfl rfl wq_1314 (by decide) (fun j => ⟨_, rfl⟩) wq_422 hl ⟨Nat.le_of_ble_eq_true rfl, Nat.le_of_ble_eq_true rfl⟩ (Nat.le_of_ble_eq_true rfl) dX8_addReader_115 ⟨Nat.le_of_ble_eq_true rfl, Nat.le_of_ble_eq_true rfl⟩ (fun a24 H locs hS => ?_)
        refine W.widen (k := 5) (n := 88) (Nat.le_of_ble_eq_true rfl) (Nat.le_of_ble_eq_true rfl) ?_
        obtain ⟨ad25, ead25⟩ : ∃ z : AD, z = adN ad15 3 1 n20 a24 (fun _ => v22) := ⟨_, rfl⟩
        rw [← ead25] at hS
        obtain ⟨V26, eV26⟩ : ∃ z : VS, z = VN V16 3 1 n20 (fldX 7 [y9, a1, a2, a3, 0, 0, 0, 0]) := ⟨_, rfl⟩
        rw [← eV26] at hS
        have h := h V26 eV26
        have hag27 : ∀ k w i : Nat, k ≠ 3 → (k < 4 ∨ 9 < k) → ad25 k w i = ad k w i := fun k w i h1 h2 => by rw [ead25, adN_ne (by decide) h1 h2]; exact hag17 k w i h1 h2
        rw [show ad15 0 0 0 = ad25 0 0 0 from by rw [ead25, adN_ne (by decide) (by decide) (by decide)]] at hl
        refine W.eq (g2 := F0 m 118 ls [.int 1]) rfl ?_
        refine lv_pop hC.1 hC.2.1 dX8_addReader_118 rfl ?_
        refine lv_iload hC.1 hC.2.1 dX8_addReader_119 (lv_at hl 0 rfl) ?_
        exact vx_ret (g_iretN hC hr hlk hS hag27 h dX8_addReader_121)
      · have h := h.2 c28
        exact g_throw (n := 3) hlf hC hS hl htab hlk (by decide +kernel) hat_3 hbt_3 hgd_3 wq_339 wq_51 sr_126 dX8_addReader_63 dX8_addReader_66 dX8_addReader_67 dX8_addReader_69 dX8_addReader_72 ⟨Nat.le_of_ble_eq_true rfl, Nat.le_of_ble_eq_true rfl, Nat.le_of_ble_eq_true rfl, Nat.le_of_ble_eq_true rfl⟩ ⟨Nat.le_of_ble_eq_true rfl, Nat.le_of_ble_eq_true rfl⟩ h
    · have h := h.1 c29
      exact g_throw (n := 2) hlf hC hS hl htab hlk (by decide +kernel) hat_2 hbt_2 hgd_2 wq_516 wq_58 sr_121 dX8_addReader_34 dX8_addReader_37 dX8_addReader_38 dX8_addReader_40 dX8_addReader_43 ⟨Nat.le_of_ble_eq_true rfl, Nat.le_of_ble_eq_true rfl, Nat.le_of_ble_eq_true rfl, Nat.le_of_ble_eq_true rfl⟩ ⟨Nat.le_of_ble_eq_true rfl, Nat.le_of_ble_eq_true rfl⟩ h
  · have h := h.1 c30
    exact g_throw (n := 2) hlf hC hS hl htab hlk (by decide +kernel) hat_2 hbt_2 hgd_2 wq_516 wq_58 sr_110 dX8_addReader_14 dX8_addReader_17 dX8_addReader_18 dX8_addReader_20 dX8_addReader_23 ⟨Nat.le_of_ble_eq_true rfl, Nat.le_of_ble_eq_true rfl, Nat.le_of_ble_eq_true rfl, Nat.le_of_ble_eq_true rfl⟩ ⟨Nat.le_of_ble_eq_true rfl, Nat.le_of_ble_eq_true rfl⟩ h
