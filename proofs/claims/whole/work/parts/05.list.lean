/-! ArrayList's reading methods -/
theorem capOf_ge {n : Nat} (h : n ≤ 33) : n ≤ capOf n := by unfold capOf; split; omega; split; omega; split; omega; split; omega; omega
theorem i_nneg {x : Int32} (h : ¬ x < 0) : 0 ≤ x.toInt := by
  have h1 := Int32.not_lt.mp h
  have h2 := Int32.le_iff_toInt_le.mp h1
  simpa using h2
theorem i_nat {x : Int32} (h : ¬ x < 0) : (x.toNatClampNeg : Int) = x.toInt := by
  have h1 := i_nneg h
  show ((x.toInt.toNat : Nat) : Int) = x.toInt
  omega
theorem i_ltN {x y : Int32} (h0 : ¬ x < 0) (h : x < y) : x.toNatClampNeg < y.toNatClampNeg := by
  have h1 := i_nneg h0
  have h2 := Int32.lt_iff_toInt_lt.mp h
  show x.toInt.toNat < y.toInt.toNat
  omega
set_option maxHeartbeats 4000000 in
set_option maxRecDepth 100000 in
theorem c_lsize (l : Launch) (G : GG) (ks : List KY) (ad : AD) (w K : Nat) (V : VS) (hk : (2, w, K) ∈ ks) (sz : Nat) : Met l yJx4a65c_size_8abf5 (ws_ yJx4a65c_size_8abf5 cJx4a65c_size_8abf5 1 (some .int)) ({ frames := 0, cells := 0, slots := 0, locals := 0 }) (mPc [.ref (ad 2 w K)] G ks ad V sz) (mQi (fun r V' => V 2 w K 2 0 = r ∧ V = V') G ks ad sz) 0 0 (mA ks ad sz) := by
  refine g_met (own := RJx4a65c) (by decide) rfl (Nat.le_of_ble_eq_true rfl) ?_
  intro p e s m args below meth c ls hC hsz hr hlk hin hS ha hl
  have hl : lv_has ls 1 [(0, .ref (ad 2 w K))] := hl
  refine lv_aload_n hC.1 hC.2.1 dJx4a65c_size_8abf5_0 rfl (lv_at hl 0 rfl) ?_
  refine g_get (C := RJx4a65c) (T := TJx4a65c) (N := 3) hC hS hk rfl rfl ina_Jx4a65c 2 (by decide) rfl wq_95 dJx4a65c_size_8abf5_1 ?_
  exact g_iret hC hr hlk hS ⟨rfl, rfl⟩ dJx4a65c_size_8abf5_4
set_option maxHeartbeats 4000000 in
set_option maxRecDepth 100000 in
theorem c_check3 (l : Launch) (G : GG) (ks : List KY) (ad : AD) (V : VS) (x n : Int32) (h0 : ¬ x < 0) (h1 : x < n) (sz : Nat) : Met l yJ3_checkIndex_8e157 (ws_ yJ3_checkIndex_8e157 cJ3_checkIndex_8e157 3 (some .int)) ({ frames := 0, cells := 0, slots := 0, locals := 0 }) (mPc [.int x, .int n, .null] G ks ad V sz) (mQi (fun r V' => x = r ∧ V = V') G ks ad sz) 0 0 (mA ks ad sz) := by
  refine g_met (own := RJ3) (by decide) rfl (Nat.le_of_ble_eq_true rfl) ?_
  intro p e s m args below meth c ls hC hsz hr hlk hin hS ha hl
  have hl : lv_has ls 3 [(0, .int x), (1, .int n), (2, .null)] := hl
  refine lv_iload_n hC.1 hC.2.1 dJ3_checkIndex_8e157_0 rfl (lv_at hl 0 rfl) ?_
  refine lv_if_lt (tgt := 9) hC.1 hC.2.1 dJ3_checkIndex_8e157_1 (by decide) (fun c1 => absurd c1 h0) (fun c1 => ?_)
  refine lv_iload_n hC.1 hC.2.1 dJ3_checkIndex_8e157_4 rfl (lv_at hl 0 rfl) ?_
  refine lv_iload_n hC.1 hC.2.1 dJ3_checkIndex_8e157_5 rfl (lv_at hl 1 rfl) ?_
  refine lv_icmp_lt (tgt := 16) hC.1 hC.2.1 dJ3_checkIndex_8e157_6 (by decide) (fun c2 => ?_) (fun c2 => absurd h1 c2)
  refine lv_iload_n hC.1 hC.2.1 dJ3_checkIndex_8e157_16 rfl (lv_at hl 0 rfl) ?_
  exact g_iret hC hr hlk hS ⟨rfl, rfl⟩ dJ3_checkIndex_8e157_17
set_option maxHeartbeats 4000000 in
set_option maxRecDepth 100000 in
theorem c_check15 (l : Launch) (G : GG) (ks : List KY) (ad : AD) (V : VS) (x n : Int32) (h0 : ¬ x < 0) (h1 : x < n) (sz : Nat) : Met l yJ15_checkIndex_7cf53 (ws_ yJ15_checkIndex_7cf53 cJ15_checkIndex_7cf53 2 (some .int)) ({ frames := 1, cells := 0, slots := 0, locals := 22 }) (mPc [.int x, .int n] G ks ad V sz) (mQi (fun r V' => x = r ∧ V = V') G ks ad sz) 0 0 (mA ks ad sz) := by
  refine g_met (own := RJ15) (by decide) rfl (Nat.le_of_ble_eq_true rfl) ?_
  intro p e s m args below meth c ls hC hsz hr hlk hin hS ha hl
  have hl : lv_has ls 2 [(0, .int x), (1, .int n)] := hl
  refine lv_iload_n hC.1 hC.2.1 dJ15_checkIndex_7cf53_0 rfl (lv_at hl 0 rfl) ?_
  refine lv_iload_n hC.1 hC.2.1 dJ15_checkIndex_7cf53_1 rfl (lv_at hl 1 rfl) ?_
  refine lv_null hC.1 hC.2.1 dJ15_checkIndex_7cf53_2 ?_
  refine g_calli0 hS (g_runS (n := 3) (rest := []) (As := [.int x, .int n, .null]) hC hS (c_check3 l G ks ad V x n h0 h1 _) (gIS wq_194 wq_195 wq_61 wq_196) ⟨⟨by decide +kernel, by decide +kernel, by decide +kernel⟩, rfl, rfl, Nat.le_of_ble_eq_true rfl, Nat.le_of_ble_eq_true rfl⟩ rfl hl rfl (Nat.le_of_ble_eq_true rfl) dJ15_checkIndex_7cf53_3 ⟨Nat.zero_le _, Nat.zero_le _⟩) (fun r V1 H locs h hS => ?_)
  obtain ⟨rfl, rfl⟩ := h
  exact g_iret hC hr hlk hS ⟨rfl, rfl⟩ dJ15_checkIndex_7cf53_6
set_option maxHeartbeats 4000000 in
set_option maxRecDepth 100000 in
theorem c_ldata (l : Launch) (G : GG) (ks : List KY) (ad : AD) (w K : Nat) (V : VS) (x : Int32) (hk : (2, w, K) ∈ ks) (hk3 : (3, w, K) ∈ ks) (hq : lsz V w K ≤ 33) (h0 : ¬ x < 0) (h1 : x < V 2 w K 2 0) (sz : Nat) : Met l yJx4a65c_elementData_915e3 (ws_ yJx4a65c_elementData_915e3 cJx4a65c_elementData_915e3 2 (some (.object "java/lang/Object"))) ({ frames := 0, cells := 0, slots := 0, locals := 0 }) (mPc [.ref (ad 2 w K), .int x] G ks ad V sz) (mQe (fun j => ad (4 + K) w j) (fun r V' => some x.toNatClampNeg = r ∧ V = V') G ks ad sz) 0 0 (mA ks ad sz) := by
  refine g_met (own := RJx4a65c) (by decide) rfl (Nat.le_of_ble_eq_true rfl) ?_
  intro p e s m args below meth c ls hC hsz hr hlk hin hS ha hl
  have hl : lv_has ls 2 [(0, .ref (ad 2 w K)), (1, .int x)] := hl
  have hne : ¬ V 2 w K 2 0 = 0 := fun z => by rw [z] at h1; exact h0 h1
  have hlt : x.toNatClampNeg < lsz V w K := i_ltN h0 h1
  refine lv_aload_n hC.1 hC.2.1 dJx4a65c_elementData_915e3_0 rfl (lv_at hl 0 rfl) ?_
  refine g_get (C := RJx4a65c) (T := TJx4a65c) (N := 3) (v := .ref (ad 3 w K)) hC hS hk rfl rfl ina_Jx4a65c 1 (by decide) (by rw [if_neg hne]; rfl) wq_94 dJx4a65c_elementData_915e3_1 ?_
  refine lv_iload_n hC.1 hC.2.1 dJx4a65c_elementData_915e3_4 rfl (lv_at hl 1 rfl) ?_
  obtain ⟨q0, hq0⟩ := List.getElem?_of_mem hk3
  have he : (pic G ks ad V)[q0]? = some (ad 3 w K, .inl (G.2.2.1, capOf (lsz V w K), .inr (.inr (.inr (.inr (fun j => if j < lsz V w K then some (ad (4 + K) w j) else none)))))) := at_pic hq0
  refine va_aldq hC.1 hC.2.1 hC.2.2.2.2.2.1.1 hS.1 q0 1 he rfl (i := x) (fun z => z.elim (fun z => h0 z) (fun z => Nat.lt_irrefl _ (Nat.lt_of_lt_of_le hlt (Nat.le_trans (capOf_ge hq) z)))) dJx4a65c_elementData_915e3_5 ?_
  refine W.eq (g2 := F0 m 6 ls [va_re (fun j => ad (4 + K) w j) (some x.toNatClampNeg)]) (by rw [if_pos hlt]; rfl) ?_
  exact g_aret (r := some x.toNatClampNeg) hC hr (Or.inl ⟨_, rfl⟩) hlk hS ⟨rfl, rfl⟩ dJx4a65c_elementData_915e3_6
set_option maxHeartbeats 4000000 in
set_option maxRecDepth 100000 in
theorem c_lget (l : Launch) (G : GG) (ks : List KY) (ad : AD) (w K : Nat) (V : VS) (x : Int32) (hk : (2, w, K) ∈ ks) (hk3 : (3, w, K) ∈ ks) (hq : lsz V w K ≤ 33) (h0 : ¬ x < 0) (h1 : x < V 2 w K 2 0) (sz : Nat) : Met l yJx4a65c_get_915e3 (ws_ yJx4a65c_get_915e3 cJx4a65c_get_915e3 2 (some (.object "java/lang/Object"))) ({ frames := 2, cells := 0, slots := 0, locals := 43 }) (mPc [.ref (ad 2 w K), .int x] G ks ad V sz) (mQe (fun j => ad (4 + K) w j) (fun r V' => some x.toNatClampNeg = r ∧ V = V') G ks ad sz) 0 0 (mA ks ad sz) := by
  refine g_met (own := RJx4a65c) (by decide) rfl (Nat.le_of_ble_eq_true rfl) ?_
  intro p e s m args below meth c ls hC hsz hr hlk hin hS ha hl
  have hl : lv_has ls 2 [(0, .ref (ad 2 w K)), (1, .int x)] := hl
  refine lv_iload_n hC.1 hC.2.1 dJx4a65c_get_915e3_0 rfl (lv_at hl 1 rfl) ?_
  refine lv_aload_n hC.1 hC.2.1 dJx4a65c_get_915e3_1 rfl (lv_at hl 0 rfl) ?_
  refine g_get (C := RJx4a65c) (T := TJx4a65c) (N := 3) hC hS hk rfl rfl ina_Jx4a65c 2 (by decide) rfl wq_95 dJx4a65c_get_915e3_2 ?_
  refine g_calli0 hS (g_runS (n := 2) (rest := []) (As := [.int x, .int (V 2 w K 2 0)]) hC hS (c_check15 l G ks ad V x _ h0 h1 _) (gIS wq_191 wq_192 wq_60 wq_193) ⟨⟨by decide +kernel, by decide +kernel, by decide +kernel⟩, rfl, rfl, Nat.le_of_ble_eq_true rfl, Nat.le_of_ble_eq_true rfl⟩ rfl hl rfl (Nat.le_of_ble_eq_true rfl) dJx4a65c_get_915e3_5 ⟨Nat.zero_le _, Nat.zero_le _⟩) (fun r V1 H locs h hS => ?_)
  obtain ⟨rfl, rfl⟩ := h
  refine lv_pop hC.1 hC.2.1 dJx4a65c_get_915e3_8 rfl ?_
  refine lv_aload_n hC.1 hC.2.1 dJx4a65c_get_915e3_9 rfl (lv_at hl 0 rfl) ?_
  refine lv_iload_n hC.1 hC.2.1 dJx4a65c_get_915e3_10 rfl (lv_at hl 1 rfl) ?_
  refine g_calle0 hS (g_runV (n := 1) (rest := []) (As := [.int x]) (C := RJx4a65c) (T := TJx4a65c) (N := 3) hC hS hk rfl rfl (c_ldata l G ks ad w K V x hk hk3 hq h0 h1 _) (gI wq_197 wq_198 wq_199 wq_43 wq_200) rfl ⟨⟨by decide +kernel, by decide +kernel, by decide +kernel⟩, rfl, rfl, Nat.le_of_ble_eq_true rfl, Nat.le_of_ble_eq_true rfl⟩ rfl hl rfl (Nat.le_of_ble_eq_true rfl) dJx4a65c_get_915e3_11 ⟨Nat.zero_le _, Nat.zero_le _⟩) (fun r2 V2 H locs h hS => ?_)
  obtain ⟨rfl, rfl⟩ := h
  exact g_aret (r := some x.toNatClampNeg) hC hr (Or.inl ⟨_, rfl⟩) hlk hS ⟨rfl, rfl⟩ dJx4a65c_get_915e3_14
section LROWS
variable {p : Program} {l : Launch} {e : Env} {R : Room} {s : State} {m : MethodId} {args : Array Value} {below : List Frame} {meth : Method} {c : Code} {H : Heap} {locs : List Loc} {cells slots : Nat} {Q : State → Prop}
variable {cc : ByteArray} {pc nL w K idx : Nat} {own : String} {ls : Array Slot} {rest : List Value} {G : GG} {ks : List KY} {ad : AD} {V : VS} {A : Nat → Prop} {lv : List (Nat × Value)}
theorem g_lsize (hC : CX p s m args c cc nL own G A) (hS : ST G ks ad V A s.heap H locs) (hk : (2, w, K) ∈ ks) (hlink : Cond.methodLink own idx yJx4a65c_size_8abf5 ∈ lw_all) (hl : lv_has ls nL lv) (hR : 1 ≤ R.frames ∧ 20 ≤ R.locals ∧ 0 ≤ R.cells) (hrest : (rest.map fun v => v.category).sum ≤ 8) (hd : decode cc pc = .ok (.invokevirtual idx, 3)) (hcs : cells ≤ R.cells ∧ slots ≤ R.slots)
    (kk : ∀ (H1 : Heap) (locs1 : List Loc), ST G ks ad V A s.heap H1 locs1 → W p l e R s m args below meth c H1 locs1 cells slots Q (F0 m (pc + 3) ls (.int (V 2 w K 2 0) :: rest))) : W p l e R s m args below meth c H locs cells slots Q (F0 m pc ls (.ref (ad 2 w K) :: rest)) := by
  refine g_calli0 hS (g_runV (n := 0) (rest := rest) (As := []) (C := RJx4a65c) (T := TJx4a65c) (N := 3) hC hS hk rfl rfl (c_lsize l G ks ad w K V hk _) (gI hlink wq_184 wq_185 wq_43 wq_186) rfl ⟨⟨by decide +kernel, by decide +kernel, by decide +kernel⟩, rfl, rfl, hR.1, hR.2.1⟩ rfl hl rfl hrest hd hcs) (fun r V1 H locs h hS => ?_)
  obtain ⟨rfl, rfl⟩ := h
  exact kk H locs hS
theorem g_lget {E : Nat} {x : Int32} (hC : CX p s m args c cc nL own G A) (hS : ST G ks ad V A s.heap H locs) (hE : 4 + K = E) (hk : (2, w, K) ∈ ks) (hk3 : (3, w, K) ∈ ks) (hq : lsz V w K ≤ 33) (h0 : ¬ x < 0) (h1 : x < V 2 w K 2 0) (hlink : Cond.methodLink own idx yJx4a65c_get_915e3 ∈ lw_all) (hl : lv_has ls nL lv) (hR : 3 ≤ R.frames ∧ 64 ≤ R.locals ∧ 0 ≤ R.cells) (hrest : (rest.map fun v => v.category).sum ≤ 8) (hd : decode cc pc = .ok (.invokevirtual idx, 3)) (hcs : cells ≤ R.cells ∧ slots ≤ R.slots)
    (kk : ∀ (j : Nat), j = x.toNatClampNeg → ∀ (H1 : Heap) (locs1 : List Loc), ST G ks ad V A s.heap H1 locs1 → W p l e R s m args below meth c H1 locs1 cells slots Q (F0 m (pc + 3) ls (.ref (ad E w j) :: rest))) : W p l e R s m args below meth c H locs cells slots Q (F0 m pc ls (.int x :: .ref (ad 2 w K) :: rest)) := by
  subst hE
  refine g_calle0 hS (g_runV (n := 1) (rest := rest) (As := [.int x]) (C := RJx4a65c) (T := TJx4a65c) (N := 3) hC hS hk rfl rfl (c_lget l G ks ad w K V x hk hk3 hq h0 h1 _) (gI hlink wq_188 wq_189 wq_43 wq_190) rfl ⟨⟨by decide +kernel, by decide +kernel, by decide +kernel⟩, rfl, rfl, hR.1, hR.2.1⟩ rfl hl rfl hrest hd hcs) (fun r V1 H locs h hS => ?_)
  obtain ⟨rfl, rfl⟩ := h
  exact kk _ rfl H locs hS
end LROWS
