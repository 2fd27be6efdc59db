def sp_addHalt (I : List KY → VS → Prop) (ks : List KY) (V : VS) : Prop := wp_L_addHalt ks V (fun k u => (15, 0, 0) ∈ u.1 ∧ wp_X10_addHalt u.1 u.2 (fun b V2 => wp_X10_thrown u.1 V2 (fun t V3 => t = k ∧ (k = 0 → V3 34 0 0 0 0 = b) ∧ (34, 0, 0) ∈ u.1 ∧ I u.1 V3)))
set_option maxHeartbeats 4000000 in
set_option maxRecDepth 100000 in
theorem k_addHalt {p : Program} {l : Launch} {e : Env} {R : Room} {s : State} {m : MethodId} {args : Array Value} {below : List Frame} {meth : Method} {c : Code} {H : Heap} {locs : List Loc} {cells slots : Nat} {Q : State → Prop} {ls : Array Slot} {G : GG} {ks : List KY} {ad : AD} {V : VS} {A : Nat → Prop} {b L : Nat} {xs : Nat → Int32} {i : Int32} {I : List KY → VS → Prop} (hlf : l.stackTraces = false) (hR : R = room_1) (hC : CX p s m args c cL_law 9 RL G A) (hS : ST G ks ad V A s.heap H locs) (hX : va_X b L xs s s.heap) (hbl : b < s.heap.size) (hbA : ¬ A b) (hin : ∀ j : Int32, j = 1 ∨ j = 2 ∨ j = 3 ∨ j = 4 → vp_in (i + j) L) (hl : lv_has ls 9 (LV ad i b)) (hcs : cells + 300 ≤ 601024 ∧ slots + 2000 ≤ 7293034) (h : sp_addHalt I ks V) (kk : ∀ (ks2 : List KY) (ad2 : AD) (V2 : VS) (H1 : Heap) (locs1 : List Loc) (ls1 : Array Slot), I ks2 V2 → ST G ks2 ad2 V2 A s.heap H1 locs1 → lv_has ls1 9 (LV ad2 i b) → W p l e R s m args below meth c H1 locs1 (cells + 300) (slots + 2000) Q (F0 m 1447 ls1 [])) : W p l e R s m args below meth c H locs cells slots Q (F0 m 136 ls []) := by
  unfold sp_addHalt at h
  refine lv_aload_n hC.1 hC.2.1 dL_law_136 rfl (lv_at hl 3 rfl) ?_
  refine lv_aload_n hC.1 hC.2.1 dL_law_137 rfl (lv_at hl 1 rfl) ?_
  refine g_calliN hS (g_runW (n := 2) (rest := []) (As := [.ref (ad 0 0 0), .ref (ad 34 0 0)]) hC hS (c_L_addHalt l hlf G ks ad V _ h _) (gIW wq_330 wq_331 wq_38 wq_332) ⟨⟨by decide +kernel, by decide +kernel, by decide +kernel⟩, rfl, rfl, by subst hR; exact Nat.le_of_ble_eq_true rfl, by subst hR; exact Nat.le_of_ble_eq_true rfl⟩ rfl hl rfl (Nat.le_of_ble_eq_true rfl) dL_law_138 ⟨by subst hR; show cells + 4 ≤ 601024; omega, by subst hR; show slots + 70 ≤ 7293034; omega⟩) (fun k ks1 ad1 V1 H locs h hag hS => ?_)
  have hl : lv_has ls 9 (LV ad1 i b) := by unfold LV at hl ⊢; rw [hag 0 0 0 (by decide) (by decide), hag 15 0 0 (by decide) (by decide), hag 34 0 0 (by decide) (by decide)]; exact hl
  obtain ⟨hk15, h⟩ := h
  refine lv_istore (lv' := [(5, .int k), (4, .int i), (3, .ref (ad1 34 0 0)), (2, .ref (ad1 15 0 0)), (1, .ref (ad1 0 0 0)), (0, .ref b)]) hC.1 hC.2.1 dL_law_141 hl (by decide) rfl (fun ls hl => ?_)
  refine lv_aload_n hC.1 hC.2.1 dL_law_143 rfl (lv_at hl 3 rfl) ?_
  refine g_calli hS (g_runV (n := 0) (rest := []) (As := []) (C := RX10) (T := TX10) (N := 13) hC hS hk15 rfl rfl (c_X10_addHalt l G ks1 ad1 V1 _ h _) (gI wq_1098 wq_1099 wq_1100 wq_46 wq_1101) rfl ⟨⟨by decide +kernel, by decide +kernel, by decide +kernel⟩, rfl, rfl, by subst hR; exact Nat.le_of_ble_eq_true rfl, by subst hR; exact Nat.le_of_ble_eq_true rfl⟩ rfl hl rfl (Nat.le_of_ble_eq_true rfl) dL_law_144 ⟨by subst hR; show cells + 4 + 0 ≤ 601024; omega, by subst hR; show slots + 70 + 0 ≤ 7293034; omega⟩) (fun b9 V2 H locs h hS => ?_)
  refine W.widen (k := cells + 300) (n := slots + 2000) (by omega) (by omega) ?_
  refine lv_istore (lv' := [(6, .int b9), (5, .int k), (4, .int i), (3, .ref (ad1 34 0 0)), (2, .ref (ad1 15 0 0)), (1, .ref (ad1 0 0 0)), (0, .ref b)]) hC.1 hC.2.1 dL_law_147 hl (by decide) rfl (fun ls hl => ?_)
  refine lv_aload_n hC.1 hC.2.1 dL_law_149 rfl (lv_at hl 4 rfl) ?_
  refine g_calli0 hS (g_runV (n := 0) (rest := []) (As := []) (C := RX10) (T := TX10) (N := 13) hC hS hk15 rfl rfl (c_X10_thrown l G ks1 ad1 V2 _ h _) (gI wq_1094 wq_1095 wq_1096 wq_46 wq_1097) rfl ⟨⟨by decide +kernel, by decide +kernel, by decide +kernel⟩, rfl, rfl, by subst hR; exact Nat.le_of_ble_eq_true rfl, by subst hR; exact Nat.le_of_ble_eq_true rfl⟩ rfl hl rfl (Nat.le_of_ble_eq_true rfl) dL_law_150 ⟨by subst hR; exact hcs.1, by subst hR; exact hcs.2⟩) (fun t9 V3 H locs h hS => ?_)
  obtain ⟨ht, hb9, hk34, h⟩ := h
  refine lv_iload hC.1 hC.2.1 dL_law_153 (lv_at hl 1 rfl) ?_
  refine lv_icmp_eq (tgt := 160) hC.1 hC.2.1 dL_law_155 (by decide) (fun _ => ?_) (fun z => absurd ht z)
  refine lv_iload hC.1 hC.2.1 dL_law_160 (lv_at hl 1 rfl) ?_
  refine lv_if_ne (tgt := 177) hC.1 hC.2.1 dL_law_162 (by decide) (fun _ => ?_) (fun hz => ?_)
  · refine lv_goto (tgt := 1447) hC.1 hC.2.1 dL_law_177 (by decide) ?_
    exact kk ks1 ad1 V3 H locs ls h hS (lv_sub hl [2, 3, 4, 5, 6] rfl)
  · refine lv_aload_n hC.1 hC.2.1 dL_law_165 rfl (lv_at hl 3 rfl) ?_
    refine lv_iconst (v := 0) hC.1 hC.2.1 dL_law_166 (by decide) ?_
    refine g_outld hC hS hk34 dL_law_167 ?_
    refine lv_iload hC.1 hC.2.1 dL_law_168 (lv_at hl 0 rfl) ?_
    refine lv_i2l hC.1 hC.2.1 dL_law_170 rfl ?_
    refine W.lcmp hC.1 hC.2.1 dL_law_171 ?_
    rw [hb9 hz, lg_same]
    refine lv_if_eq (tgt := 177) hC.1 hC.2.1 dL_law_172 (by decide) (fun _ => ?_) (fun z => absurd rfl z)
    refine lv_goto (tgt := 1447) hC.1 hC.2.1 dL_law_177 (by decide) ?_
    exact kk ks1 ad1 V3 H locs ls h hS (lv_sub hl [2, 3, 4, 5, 6] rfl)
def sp_addLane (I : List KY → VS → Prop) (ks : List KY) (a1 : Int32) (a2 : Int32) (a3 : Int32) (a4 : Int32) (V : VS) : Prop := wp_L_addLane ks a1 a2 a3 a4 V (fun k u => (15, 0, 0) ∈ u.1 ∧ wp_X10_addLane u.1 a1 a2 a3 a4 u.2 (fun b V2 => wp_X10_thrown u.1 V2 (fun t V3 => t = k ∧ (k = 0 → V3 34 0 0 0 0 = b) ∧ (34, 0, 0) ∈ u.1 ∧ I u.1 V3)))
set_option maxHeartbeats 4000000 in
set_option maxRecDepth 100000 in
theorem k_addLane {p : Program} {l : Launch} {e : Env} {R : Room} {s : State} {m : MethodId} {args : Array Value} {below : List Frame} {meth : Method} {c : Code} {H : Heap} {locs : List Loc} {cells slots : Nat} {Q : State → Prop} {ls : Array Slot} {G : GG} {ks : List KY} {ad : AD} {V : VS} {A : Nat → Prop} {b L : Nat} {xs : Nat → Int32} {i : Int32} {I : List KY → VS → Prop} (hlf : l.stackTraces = false) (hR : R = room_1) (hC : CX p s m args c cL_law 9 RL G A) (hS : ST G ks ad V A s.heap H locs) (hX : va_X b L xs s s.heap) (hbl : b < s.heap.size) (hbA : ¬ A b) (hin : ∀ j : Int32, j = 1 ∨ j = 2 ∨ j = 3 ∨ j = 4 → vp_in (i + j) L) (hl : lv_has ls 9 (LV ad i b)) (hcs : cells + 300 ≤ 601024 ∧ slots + 2000 ≤ 7293034) (h : sp_addLane I ks (xs (i + 1).toNatClampNeg) (xs (i + 2).toNatClampNeg) (xs (i + 3).toNatClampNeg) (xs (i + 4).toNatClampNeg) V) (kk : ∀ (ks2 : List KY) (ad2 : AD) (V2 : VS) (H1 : Heap) (locs1 : List Loc) (ls1 : Array Slot), I ks2 V2 → ST G ks2 ad2 V2 A s.heap H1 locs1 → lv_has ls1 9 (LV ad2 i b) → W p l e R s m args below meth c H1 locs1 (cells + 300) (slots + 2000) Q (F0 m 1447 ls1 [])) : W p l e R s m args below meth c H locs cells slots Q (F0 m 180 ls []) := by
  unfold sp_addLane at h
  refine lv_aload_n hC.1 hC.2.1 dL_law_180 rfl (lv_at hl 3 rfl) ?_
  refine lv_aload_n hC.1 hC.2.1 dL_law_181 rfl (lv_at hl 4 rfl) ?_
  refine lv_iload hC.1 hC.2.1 dL_law_182 (lv_at hl 0 rfl) ?_
  refine lv_iconst (v := 1) hC.1 hC.2.1 dL_law_184 (by decide) ?_
  refine lv_iadd hC.1 hC.2.1 dL_law_185 ?_
  refine va_sld hC.1 hC.2.1 hX hbl hbA hS.2.1 (hin 1 (by decide)) dL_law_186 ?_
  refine lv_aload_n hC.1 hC.2.1 dL_law_187 rfl (lv_at hl 4 rfl) ?_
  refine lv_iload hC.1 hC.2.1 dL_law_188 (lv_at hl 0 rfl) ?_
  refine lv_iconst (v := 2) hC.1 hC.2.1 dL_law_190 (by decide) ?_
  refine lv_iadd hC.1 hC.2.1 dL_law_191 ?_
  refine va_sld hC.1 hC.2.1 hX hbl hbA hS.2.1 (hin 2 (by decide)) dL_law_192 ?_
  refine lv_aload_n hC.1 hC.2.1 dL_law_193 rfl (lv_at hl 4 rfl) ?_
  refine lv_iload hC.1 hC.2.1 dL_law_194 (lv_at hl 0 rfl) ?_
  refine lv_iconst (v := 3) hC.1 hC.2.1 dL_law_196 (by decide) ?_
  refine lv_iadd hC.1 hC.2.1 dL_law_197 ?_
  refine va_sld hC.1 hC.2.1 hX hbl hbA hS.2.1 (hin 3 (by decide)) dL_law_198 ?_
  refine lv_aload_n hC.1 hC.2.1 dL_law_199 rfl (lv_at hl 4 rfl) ?_
  refine lv_iload hC.1 hC.2.1 dL_law_200 (lv_at hl 0 rfl) ?_
  refine lv_iconst (v := 4) hC.1 hC.2.1 dL_law_202 (by decide) ?_
  refine lv_iadd hC.1 hC.2.1 dL_law_203 ?_
  refine va_sld hC.1 hC.2.1 hX hbl hbA hS.2.1 (hin 4 (by decide)) dL_law_204 ?_
  refine lv_aload_n hC.1 hC.2.1 dL_law_205 rfl (lv_at hl 1 rfl) ?_
  refine g_calliN hS (g_runW (n := 6) (rest := []) (As := [.ref (ad 0 0 0), .int (xs (i + 1).toNatClampNeg), .int (xs (i + 2).toNatClampNeg), .int (xs (i + 3).toNatClampNeg), .int (xs (i + 4).toNatClampNeg), .ref (ad 34 0 0)]) hC hS (c_L_addLane l hlf G ks ad (xs (i + 1).toNatClampNeg) (xs (i + 2).toNatClampNeg) (xs (i + 3).toNatClampNeg) (xs (i + 4).toNatClampNeg) V _ h _) (gIW wq_484 wq_485 wq_38 wq_486) ⟨⟨by decide +kernel, by decide +kernel, by decide +kernel⟩, rfl, rfl, by subst hR; exact Nat.le_of_ble_eq_true rfl, by subst hR; exact Nat.le_of_ble_eq_true rfl⟩ rfl hl rfl (Nat.le_of_ble_eq_true rfl) dL_law_206 ⟨by subst hR; show cells + 6 ≤ 601024; omega, by subst hR; show slots + 88 ≤ 7293034; omega⟩) (fun k ks1 ad1 V1 H locs h hag hS => ?_)
  have hl : lv_has ls 9 (LV ad1 i b) := by unfold LV at hl ⊢; rw [hag 0 0 0 (by decide) (by decide), hag 15 0 0 (by decide) (by decide), hag 34 0 0 (by decide) (by decide)]; exact hl
  obtain ⟨hk15, h⟩ := h
  refine lv_istore (lv' := [(5, .int k), (4, .int i), (3, .ref (ad1 34 0 0)), (2, .ref (ad1 15 0 0)), (1, .ref (ad1 0 0 0)), (0, .ref b)]) hC.1 hC.2.1 dL_law_209 hl (by decide) rfl (fun ls hl => ?_)
  refine lv_aload_n hC.1 hC.2.1 dL_law_211 rfl (lv_at hl 3 rfl) ?_
  refine lv_aload_n hC.1 hC.2.1 dL_law_212 rfl (lv_at hl 5 rfl) ?_
  refine lv_iload hC.1 hC.2.1 dL_law_213 (lv_at hl 1 rfl) ?_
  refine lv_iconst (v := 1) hC.1 hC.2.1 dL_law_215 (by decide) ?_
  refine lv_iadd hC.1 hC.2.1 dL_law_216 ?_
  refine va_sld hC.1 hC.2.1 hX hbl hbA hS.2.1 (hin 1 (by decide)) dL_law_217 ?_
  refine lv_aload_n hC.1 hC.2.1 dL_law_218 rfl (lv_at hl 5 rfl) ?_
  refine lv_iload hC.1 hC.2.1 dL_law_219 (lv_at hl 1 rfl) ?_
  refine lv_iconst (v := 2) hC.1 hC.2.1 dL_law_221 (by decide) ?_
  refine lv_iadd hC.1 hC.2.1 dL_law_222 ?_
  refine va_sld hC.1 hC.2.1 hX hbl hbA hS.2.1 (hin 2 (by decide)) dL_law_223 ?_
  refine lv_aload_n hC.1 hC.2.1 dL_law_224 rfl (lv_at hl 5 rfl) ?_
  refine lv_iload hC.1 hC.2.1 dL_law_225 (lv_at hl 1 rfl) ?_
  refine lv_iconst (v := 3) hC.1 hC.2.1 dL_law_227 (by decide) ?_
  refine lv_iadd hC.1 hC.2.1 dL_law_228 ?_
  refine va_sld hC.1 hC.2.1 hX hbl hbA hS.2.1 (hin 3 (by decide)) dL_law_229 ?_
  refine lv_aload_n hC.1 hC.2.1 dL_law_230 rfl (lv_at hl 5 rfl) ?_
  refine lv_iload hC.1 hC.2.1 dL_law_231 (lv_at hl 1 rfl) ?_
  refine lv_iconst (v := 4) hC.1 hC.2.1 dL_law_233 (by decide) ?_
  refine lv_iadd hC.1 hC.2.1 dL_law_234 ?_
  refine va_sld hC.1 hC.2.1 hX hbl hbA hS.2.1 (hin 4 (by decide)) dL_law_235 ?_
  refine g_calli hS (g_runV (n := 4) (rest := []) (As := [.int (xs (i + 1).toNatClampNeg), .int (xs (i + 2).toNatClampNeg), .int (xs (i + 3).toNatClampNeg), .int (xs (i + 4).toNatClampNeg)]) (C := RX10) (T := TX10) (N := 13) hC hS hk15 rfl rfl (c_X10_addLane l G ks1 ad1 (xs (i + 1).toNatClampNeg) (xs (i + 2).toNatClampNeg) (xs (i + 3).toNatClampNeg) (xs (i + 4).toNatClampNeg) V1 _ h _) (gI wq_1106 wq_1107 wq_1108 wq_46 wq_1109) rfl ⟨⟨by decide +kernel, by decide +kernel, by decide +kernel⟩, rfl, rfl, by subst hR; exact Nat.le_of_ble_eq_true rfl, by subst hR; exact Nat.le_of_ble_eq_true rfl⟩ rfl hl rfl (Nat.le_of_ble_eq_true rfl) dL_law_236 ⟨by subst hR; show cells + 6 + 1 ≤ 601024; omega, by subst hR; show slots + 88 + 4 ≤ 7293034; omega⟩) (fun b9 V2 H locs h hS => ?_)
  refine W.widen (k := cells + 300) (n := slots + 2000) (by omega) (by omega) ?_
  refine lv_istore (lv' := [(6, .int b9), (5, .int k), (4, .int i), (3, .ref (ad1 34 0 0)), (2, .ref (ad1 15 0 0)), (1, .ref (ad1 0 0 0)), (0, .ref b)]) hC.1 hC.2.1 dL_law_239 hl (by decide) rfl (fun ls hl => ?_)
  refine lv_aload_n hC.1 hC.2.1 dL_law_241 rfl (lv_at hl 4 rfl) ?_
  refine g_calli0 hS (g_runV (n := 0) (rest := []) (As := []) (C := RX10) (T := TX10) (N := 13) hC hS hk15 rfl rfl (c_X10_thrown l G ks1 ad1 V2 _ h _) (gI wq_1094 wq_1095 wq_1096 wq_46 wq_1097) rfl ⟨⟨by decide +kernel, by decide +kernel, by decide +kernel⟩, rfl, rfl, by subst hR; exact Nat.le_of_ble_eq_true rfl, by subst hR; exact Nat.le_of_ble_eq_true rfl⟩ rfl hl rfl (Nat.le_of_ble_eq_true rfl) dL_law_242 ⟨by subst hR; exact hcs.1, by subst hR; exact hcs.2⟩) (fun t9 V3 H locs h hS => ?_)
  obtain ⟨ht, hb9, hk34, h⟩ := h
  refine lv_iload hC.1 hC.2.1 dL_law_245 (lv_at hl 1 rfl) ?_
  refine lv_icmp_eq (tgt := 252) hC.1 hC.2.1 dL_law_247 (by decide) (fun _ => ?_) (fun z => absurd ht z)
  refine lv_iload hC.1 hC.2.1 dL_law_252 (lv_at hl 1 rfl) ?_
  refine lv_if_ne (tgt := 269) hC.1 hC.2.1 dL_law_254 (by decide) (fun _ => ?_) (fun hz => ?_)
  · refine lv_goto (tgt := 1447) hC.1 hC.2.1 dL_law_269 (by decide) ?_
    exact kk ks1 ad1 V3 H locs ls h hS (lv_sub hl [2, 3, 4, 5, 6] rfl)
  · refine lv_aload_n hC.1 hC.2.1 dL_law_257 rfl (lv_at hl 3 rfl) ?_
    refine lv_iconst (v := 0) hC.1 hC.2.1 dL_law_258 (by decide) ?_
    refine g_outld hC hS hk34 dL_law_259 ?_
    refine lv_iload hC.1 hC.2.1 dL_law_260 (lv_at hl 0 rfl) ?_
    refine lv_i2l hC.1 hC.2.1 dL_law_262 rfl ?_
    refine W.lcmp hC.1 hC.2.1 dL_law_263 ?_
    rw [hb9 hz, lg_same]
    refine lv_if_eq (tgt := 269) hC.1 hC.2.1 dL_law_264 (by decide) (fun _ => ?_) (fun z => absurd rfl z)
    refine lv_goto (tgt := 1447) hC.1 hC.2.1 dL_law_269 (by decide) ?_
    exact kk ks1 ad1 V3 H locs ls h hS (lv_sub hl [2, 3, 4, 5, 6] rfl)
def sp_setRain (I : List KY → VS → Prop) (ks : List KY) (a1 : Int32) (a2 : Int32) (V : VS) : Prop := wp_L_setRain ks a1 a2 V (fun k V1 => (15, 0, 0) ∈ ks ∧ wp_X10_setRain ks a1 a2 V1 (fun b V2 => wp_X10_thrown ks V2 (fun t V3 => t = k ∧ (k = 0 → V3 34 0 0 0 0 = b) ∧ (34, 0, 0) ∈ ks ∧ I ks V3)))
set_option maxHeartbeats 4000000 in
set_option maxRecDepth 100000 in
theorem k_setRain {p : Program} {l : Launch} {e : Env} {R : Room} {s : State} {m : MethodId} {args : Array Value} {below : List Frame} {meth : Method} {c : Code} {H : Heap} {locs : List Loc} {cells slots : Nat} {Q : State → Prop} {ls : Array Slot} {G : GG} {ks : List KY} {ad : AD} {V : VS} {A : Nat → Prop} {b L : Nat} {xs : Nat → Int32} {i : Int32} {I : List KY → VS → Prop} (hlf : l.stackTraces = false) (hR : R = room_1) (hC : CX p s m args c cL_law 9 RL G A) (hS : ST G ks ad V A s.heap H locs) (hX : va_X b L xs s s.heap) (hbl : b < s.heap.size) (hbA : ¬ A b) (hin : ∀ j : Int32, j = 1 ∨ j = 2 ∨ j = 3 ∨ j = 4 → vp_in (i + j) L) (hl : lv_has ls 9 (LV ad i b)) (hcs : cells + 300 ≤ 601024 ∧ slots + 2000 ≤ 7293034) (h : sp_setRain I ks (xs (i + 1).toNatClampNeg) (xs (i + 2).toNatClampNeg) V) (kk : ∀ (ks2 : List KY) (ad2 : AD) (V2 : VS) (H1 : Heap) (locs1 : List Loc) (ls1 : Array Slot), I ks2 V2 → ST G ks2 ad2 V2 A s.heap H1 locs1 → lv_has ls1 9 (LV ad2 i b) → W p l e R s m args below meth c H1 locs1 (cells + 300) (slots + 2000) Q (F0 m 1447 ls1 [])) : W p l e R s m args below meth c H locs cells slots Q (F0 m 272 ls []) := by
  unfold sp_setRain at h
  refine lv_aload_n hC.1 hC.2.1 dL_law_272 rfl (lv_at hl 3 rfl) ?_
  refine lv_aload_n hC.1 hC.2.1 dL_law_273 rfl (lv_at hl 4 rfl) ?_
  refine lv_iload hC.1 hC.2.1 dL_law_274 (lv_at hl 0 rfl) ?_
  refine lv_iconst (v := 1) hC.1 hC.2.1 dL_law_276 (by decide) ?_
  refine lv_iadd hC.1 hC.2.1 dL_law_277 ?_
  refine va_sld hC.1 hC.2.1 hX hbl hbA hS.2.1 (hin 1 (by decide)) dL_law_278 ?_
  refine lv_aload_n hC.1 hC.2.1 dL_law_279 rfl (lv_at hl 4 rfl) ?_
  refine lv_iload hC.1 hC.2.1 dL_law_280 (lv_at hl 0 rfl) ?_
  refine lv_iconst (v := 2) hC.1 hC.2.1 dL_law_282 (by decide) ?_
  refine lv_iadd hC.1 hC.2.1 dL_law_283 ?_
  refine va_sld hC.1 hC.2.1 hX hbl hbA hS.2.1 (hin 2 (by decide)) dL_law_284 ?_
  refine lv_aload_n hC.1 hC.2.1 dL_law_285 rfl (lv_at hl 1 rfl) ?_
  refine g_calli hS (g_runW (n := 4) (rest := []) (As := [.ref (ad 0 0 0), .int (xs (i + 1).toNatClampNeg), .int (xs (i + 2).toNatClampNeg), .ref (ad 34 0 0)]) hC hS (c_L_setRain l hlf G ks ad (xs (i + 1).toNatClampNeg) (xs (i + 2).toNatClampNeg) V _ h _) (gIW wq_567 wq_568 wq_38 wq_569) ⟨⟨by decide +kernel, by decide +kernel, by decide +kernel⟩, rfl, rfl, by subst hR; exact Nat.le_of_ble_eq_true rfl, by subst hR; exact Nat.le_of_ble_eq_true rfl⟩ rfl hl rfl (Nat.le_of_ble_eq_true rfl) dL_law_286 ⟨by subst hR; show cells + 2 ≤ 601024; omega, by subst hR; show slots + 12 ≤ 7293034; omega⟩) (fun k V1 H locs h hS => ?_)
  obtain ⟨hk15, h⟩ := h
  refine lv_istore (lv' := [(5, .int k), (4, .int i), (3, .ref (ad 34 0 0)), (2, .ref (ad 15 0 0)), (1, .ref (ad 0 0 0)), (0, .ref b)]) hC.1 hC.2.1 dL_law_289 hl (by decide) rfl (fun ls hl => ?_)
  refine lv_aload_n hC.1 hC.2.1 dL_law_291 rfl (lv_at hl 3 rfl) ?_
  refine lv_aload_n hC.1 hC.2.1 dL_law_292 rfl (lv_at hl 5 rfl) ?_
  refine lv_iload hC.1 hC.2.1 dL_law_293 (lv_at hl 1 rfl) ?_
  refine lv_iconst (v := 1) hC.1 hC.2.1 dL_law_295 (by decide) ?_
  refine lv_iadd hC.1 hC.2.1 dL_law_296 ?_
  refine va_sld hC.1 hC.2.1 hX hbl hbA hS.2.1 (hin 1 (by decide)) dL_law_297 ?_
  refine lv_aload_n hC.1 hC.2.1 dL_law_298 rfl (lv_at hl 5 rfl) ?_
  refine lv_iload hC.1 hC.2.1 dL_law_299 (lv_at hl 1 rfl) ?_
  refine lv_iconst (v := 2) hC.1 hC.2.1 dL_law_301 (by decide) ?_
  refine lv_iadd hC.1 hC.2.1 dL_law_302 ?_
  refine va_sld hC.1 hC.2.1 hX hbl hbA hS.2.1 (hin 2 (by decide)) dL_law_303 ?_
  refine g_calli hS (g_runV (n := 2) (rest := []) (As := [.int (xs (i + 1).toNatClampNeg), .int (xs (i + 2).toNatClampNeg)]) (C := RX10) (T := TX10) (N := 13) hC hS hk15 rfl rfl (c_X10_setRain l G ks ad (xs (i + 1).toNatClampNeg) (xs (i + 2).toNatClampNeg) V1 _ h _) (gI wq_1118 wq_1119 wq_1120 wq_46 wq_1121) rfl ⟨⟨by decide +kernel, by decide +kernel, by decide +kernel⟩, rfl, rfl, by subst hR; exact Nat.le_of_ble_eq_true rfl, by subst hR; exact Nat.le_of_ble_eq_true rfl⟩ rfl hl rfl (Nat.le_of_ble_eq_true rfl) dL_law_304 ⟨by subst hR; show cells + 2 + 0 ≤ 601024; omega, by subst hR; show slots + 12 + 0 ≤ 7293034; omega⟩) (fun b9 V2 H locs h hS => ?_)
  refine W.widen (k := cells + 300) (n := slots + 2000) (by omega) (by omega) ?_
  refine lv_istore (lv' := [(6, .int b9), (5, .int k), (4, .int i), (3, .ref (ad 34 0 0)), (2, .ref (ad 15 0 0)), (1, .ref (ad 0 0 0)), (0, .ref b)]) hC.1 hC.2.1 dL_law_307 hl (by decide) rfl (fun ls hl => ?_)
  refine lv_aload_n hC.1 hC.2.1 dL_law_309 rfl (lv_at hl 4 rfl) ?_
  refine g_calli0 hS (g_runV (n := 0) (rest := []) (As := []) (C := RX10) (T := TX10) (N := 13) hC hS hk15 rfl rfl (c_X10_thrown l G ks ad V2 _ h _) (gI wq_1094 wq_1095 wq_1096 wq_46 wq_1097) rfl ⟨⟨by decide +kernel, by decide +kernel, by decide +kernel⟩, rfl, rfl, by subst hR; exact Nat.le_of_ble_eq_true rfl, by subst hR; exact Nat.le_of_ble_eq_true rfl⟩ rfl hl rfl (Nat.le_of_ble_eq_true rfl) dL_law_310 ⟨by subst hR; exact hcs.1, by subst hR; exact hcs.2⟩) (fun t9 V3 H locs h hS => ?_)
  obtain ⟨ht, hb9, hk34, h⟩ := h
  refine lv_iload hC.1 hC.2.1 dL_law_313 (lv_at hl 1 rfl) ?_
  refine lv_icmp_eq (tgt := 320) hC.1 hC.2.1 dL_law_315 (by decide) (fun _ => ?_) (fun z => absurd ht z)
  refine lv_iload hC.1 hC.2.1 dL_law_320 (lv_at hl 1 rfl) ?_
  refine lv_if_ne (tgt := 337) hC.1 hC.2.1 dL_law_322 (by decide) (fun _ => ?_) (fun hz => ?_)
  · refine lv_goto (tgt := 1447) hC.1 hC.2.1 dL_law_337 (by decide) ?_
    exact kk ks ad V3 H locs ls h hS (lv_sub hl [2, 3, 4, 5, 6] rfl)
  · refine lv_aload_n hC.1 hC.2.1 dL_law_325 rfl (lv_at hl 3 rfl) ?_
    refine lv_iconst (v := 0) hC.1 hC.2.1 dL_law_326 (by decide) ?_
    refine g_outld hC hS hk34 dL_law_327 ?_
    refine lv_iload hC.1 hC.2.1 dL_law_328 (lv_at hl 0 rfl) ?_
    refine lv_i2l hC.1 hC.2.1 dL_law_330 rfl ?_
    refine W.lcmp hC.1 hC.2.1 dL_law_331 ?_
    rw [hb9 hz, lg_same]
    refine lv_if_eq (tgt := 337) hC.1 hC.2.1 dL_law_332 (by decide) (fun _ => ?_) (fun z => absurd rfl z)
    refine lv_goto (tgt := 1447) hC.1 hC.2.1 dL_law_337 (by decide) ?_
    exact kk ks ad V3 H locs ls h hS (lv_sub hl [2, 3, 4, 5, 6] rfl)
def sp_setRound (I : List KY → VS → Prop) (ks : List KY) (a1 : Int32) (a2 : Int32) (V : VS) : Prop := wp_L_setRound ks a1 a2 V (fun k V1 => (15, 0, 0) ∈ ks ∧ wp_X10_setRound ks a1 a2 V1 (fun b V2 => wp_X10_thrown ks V2 (fun t V3 => t = k ∧ (k = 0 → V3 34 0 0 0 0 = b) ∧ (34, 0, 0) ∈ ks ∧ I ks V3)))
set_option maxHeartbeats 4000000 in
set_option maxRecDepth 100000 in
theorem k_setRound {p : Program} {l : Launch} {e : Env} {R : Room} {s : State} {m : MethodId} {args : Array Value} {below : List Frame} {meth : Method} {c : Code} {H : Heap} {locs : List Loc} {cells slots : Nat} {Q : State → Prop} {ls : Array Slot} {G : GG} {ks : List KY} {ad : AD} {V : VS} {A : Nat → Prop} {b L : Nat} {xs : Nat → Int32} {i : Int32} {I : List KY → VS → Prop} (hlf : l.stackTraces = false) (hR : R = room_1) (hC : CX p s m args c cL_law 9 RL G A) (hS : ST G ks ad V A s.heap H locs) (hX : va_X b L xs s s.heap) (hbl : b < s.heap.size) (hbA : ¬ A b) (hin : ∀ j : Int32, j = 1 ∨ j = 2 ∨ j = 3 ∨ j = 4 → vp_in (i + j) L) (hl : lv_has ls 9 (LV ad i b)) (hcs : cells + 300 ≤ 601024 ∧ slots + 2000 ≤ 7293034) (h : sp_setRound I ks (xs (i + 1).toNatClampNeg) (xs (i + 2).toNatClampNeg) V) (kk : ∀ (ks2 : List KY) (ad2 : AD) (V2 : VS) (H1 : Heap) (locs1 : List Loc) (ls1 : Array Slot), I ks2 V2 → ST G ks2 ad2 V2 A s.heap H1 locs1 → lv_has ls1 9 (LV ad2 i b) → W p l e R s m args below meth c H1 locs1 (cells + 300) (slots + 2000) Q (F0 m 1447 ls1 [])) : W p l e R s m args below meth c H locs cells slots Q (F0 m 340 ls []) := by
  unfold sp_setRound at h
  refine lv_aload_n hC.1 hC.2.1 dL_law_340 rfl (lv_at hl 3 rfl) ?_
  refine lv_aload_n hC.1 hC.2.1 dL_law_341 rfl (lv_at hl 4 rfl) ?_
  refine lv_iload hC.1 hC.2.1 dL_law_342 (lv_at hl 0 rfl) ?_
  refine lv_iconst (v := 1) hC.1 hC.2.1 dL_law_344 (by decide) ?_
  refine lv_iadd hC.1 hC.2.1 dL_law_345 ?_
  refine va_sld hC.1 hC.2.1 hX hbl hbA hS.2.1 (hin 1 (by decide)) dL_law_346 ?_
  refine lv_aload_n hC.1 hC.2.1 dL_law_347 rfl (lv_at hl 4 rfl) ?_
  refine lv_iload hC.1 hC.2.1 dL_law_348 (lv_at hl 0 rfl) ?_
  refine lv_iconst (v := 2) hC.1 hC.2.1 dL_law_350 (by decide) ?_
  refine lv_iadd hC.1 hC.2.1 dL_law_351 ?_
  refine va_sld hC.1 hC.2.1 hX hbl hbA hS.2.1 (hin 2 (by decide)) dL_law_352 ?_
  refine lv_aload_n hC.1 hC.2.1 dL_law_353 rfl (lv_at hl 1 rfl) ?_
  refine g_calli hS (g_runW (n := 4) (rest := []) (As := [.ref (ad 0 0 0), .int (xs (i + 1).toNatClampNeg), .int (xs (i + 2).toNatClampNeg), .ref (ad 34 0 0)]) hC hS (c_L_setRound l hlf G ks ad (xs (i + 1).toNatClampNeg) (xs (i + 2).toNatClampNeg) V _ h _) (gIW wq_579 wq_580 wq_38 wq_581) ⟨⟨by decide +kernel, by decide +kernel, by decide +kernel⟩, rfl, rfl, by subst hR; exact Nat.le_of_ble_eq_true rfl, by subst hR; exact Nat.le_of_ble_eq_true rfl⟩ rfl hl rfl (Nat.le_of_ble_eq_true rfl) dL_law_354 ⟨by subst hR; show cells + 1 ≤ 601024; omega, by subst hR; show slots + 6 ≤ 7293034; omega⟩) (fun k V1 H locs h hS => ?_)
  obtain ⟨hk15, h⟩ := h
  refine lv_istore (lv' := [(5, .int k), (4, .int i), (3, .ref (ad 34 0 0)), (2, .ref (ad 15 0 0)), (1, .ref (ad 0 0 0)), (0, .ref b)]) hC.1 hC.2.1 dL_law_357 hl (by decide) rfl (fun ls hl => ?_)
  refine lv_aload_n hC.1 hC.2.1 dL_law_359 rfl (lv_at hl 3 rfl) ?_
  refine lv_aload_n hC.1 hC.2.1 dL_law_360 rfl (lv_at hl 5 rfl) ?_
  refine lv_iload hC.1 hC.2.1 dL_law_361 (lv_at hl 1 rfl) ?_
  refine lv_iconst (v := 1) hC.1 hC.2.1 dL_law_363 (by decide) ?_
  refine lv_iadd hC.1 hC.2.1 dL_law_364 ?_
  refine va_sld hC.1 hC.2.1 hX hbl hbA hS.2.1 (hin 1 (by decide)) dL_law_365 ?_
  refine lv_aload_n hC.1 hC.2.1 dL_law_366 rfl (lv_at hl 5 rfl) ?_
  refine lv_iload hC.1 hC.2.1 dL_law_367 (lv_at hl 1 rfl) ?_
  refine lv_iconst (v := 2) hC.1 hC.2.1 dL_law_369 (by decide) ?_
  refine lv_iadd hC.1 hC.2.1 dL_law_370 ?_
  refine va_sld hC.1 hC.2.1 hX hbl hbA hS.2.1 (hin 2 (by decide)) dL_law_371 ?_
  refine g_calli hS (g_runV (n := 2) (rest := []) (As := [.int (xs (i + 1).toNatClampNeg), .int (xs (i + 2).toNatClampNeg)]) (C := RX10) (T := TX10) (N := 13) hC hS hk15 rfl rfl (c_X10_setRound l G ks ad (xs (i + 1).toNatClampNeg) (xs (i + 2).toNatClampNeg) V1 _ h _) (gI wq_1122 wq_1123 wq_1124 wq_46 wq_1125) rfl ⟨⟨by decide +kernel, by decide +kernel, by decide +kernel⟩, rfl, rfl, by subst hR; exact Nat.le_of_ble_eq_true rfl, by subst hR; exact Nat.le_of_ble_eq_true rfl⟩ rfl hl rfl (Nat.le_of_ble_eq_true rfl) dL_law_372 ⟨by subst hR; show cells + 1 + 0 ≤ 601024; omega, by subst hR; show slots + 6 + 0 ≤ 7293034; omega⟩) (fun b9 V2 H locs h hS => ?_)
  refine W.widen (k := cells + 300) (n := slots + 2000) (by omega) (by omega) ?_
  refine lv_istore (lv' := [(6, .int b9), (5, .int k), (4, .int i), (3, .ref (ad 34 0 0)), (2, .ref (ad 15 0 0)), (1, .ref (ad 0 0 0)), (0, .ref b)]) hC.1 hC.2.1 dL_law_375 hl (by decide) rfl (fun ls hl => ?_)
  refine lv_aload_n hC.1 hC.2.1 dL_law_377 rfl (lv_at hl 4 rfl) ?_
  refine g_calli0 hS (g_runV (n := 0) (rest := []) (As := []) (C := RX10) (T := TX10) (N := 13) hC hS hk15 rfl rfl (c_X10_thrown l G ks ad V2 _ h _) (gI wq_1094 wq_1095 wq_1096 wq_46 wq_1097) rfl ⟨⟨by decide +kernel, by decide +kernel, by decide +kernel⟩, rfl, rfl, by subst hR; exact Nat.le_of_ble_eq_true rfl, by subst hR; exact Nat.le_of_ble_eq_true rfl⟩ rfl hl rfl (Nat.le_of_ble_eq_true rfl) dL_law_378 ⟨by subst hR; exact hcs.1, by subst hR; exact hcs.2⟩) (fun t9 V3 H locs h hS => ?_)
  obtain ⟨ht, hb9, hk34, h⟩ := h
  refine lv_iload hC.1 hC.2.1 dL_law_381 (lv_at hl 1 rfl) ?_
  refine lv_icmp_eq (tgt := 388) hC.1 hC.2.1 dL_law_383 (by decide) (fun _ => ?_) (fun z => absurd ht z)
  refine lv_iload hC.1 hC.2.1 dL_law_388 (lv_at hl 1 rfl) ?_
  refine lv_if_ne (tgt := 405) hC.1 hC.2.1 dL_law_390 (by decide) (fun _ => ?_) (fun hz => ?_)
  · refine lv_goto (tgt := 1447) hC.1 hC.2.1 dL_law_405 (by decide) ?_
    exact kk ks ad V3 H locs ls h hS (lv_sub hl [2, 3, 4, 5, 6] rfl)
  · refine lv_aload_n hC.1 hC.2.1 dL_law_393 rfl (lv_at hl 3 rfl) ?_
    refine lv_iconst (v := 0) hC.1 hC.2.1 dL_law_394 (by decide) ?_
    refine g_outld hC hS hk34 dL_law_395 ?_
    refine lv_iload hC.1 hC.2.1 dL_law_396 (lv_at hl 0 rfl) ?_
    refine lv_i2l hC.1 hC.2.1 dL_law_398 rfl ?_
    refine W.lcmp hC.1 hC.2.1 dL_law_399 ?_
    rw [hb9 hz, lg_same]
    refine lv_if_eq (tgt := 405) hC.1 hC.2.1 dL_law_400 (by decide) (fun _ => ?_) (fun z => absurd rfl z)
    refine lv_goto (tgt := 1447) hC.1 hC.2.1 dL_law_405 (by decide) ?_
    exact kk ks ad V3 H locs ls h hS (lv_sub hl [2, 3, 4, 5, 6] rfl)
def sp_halt (I : List KY → VS → Prop) (ks : List KY) (a1 : Int32) (a2 : Int32) (V : VS) : Prop := wp_L_halt ks a1 a2 V (fun k V1 => (15, 0, 0) ∈ ks ∧ wp_X10_halt ks a1 a2 V1 (fun b V2 => wp_X10_thrown ks V2 (fun t V3 => t = k ∧ (k = 0 → V3 34 0 0 0 0 = b) ∧ (34, 0, 0) ∈ ks ∧ I ks V3)))
set_option maxHeartbeats 4000000 in
set_option maxRecDepth 100000 in
theorem k_halt {p : Program} {l : Launch} {e : Env} {R : Room} {s : State} {m : MethodId} {args : Array Value} {below : List Frame} {meth : Method} {c : Code} {H : Heap} {locs : List Loc} {cells slots : Nat} {Q : State → Prop} {ls : Array Slot} {G : GG} {ks : List KY} {ad : AD} {V : VS} {A : Nat → Prop} {b L : Nat} {xs : Nat → Int32} {i : Int32} {I : List KY → VS → Prop} (hlf : l.stackTraces = false) (hR : R = room_1) (hC : CX p s m args c cL_law 9 RL G A) (hS : ST G ks ad V A s.heap H locs) (hX : va_X b L xs s s.heap) (hbl : b < s.heap.size) (hbA : ¬ A b) (hin : ∀ j : Int32, j = 1 ∨ j = 2 ∨ j = 3 ∨ j = 4 → vp_in (i + j) L) (hl : lv_has ls 9 (LV ad i b)) (hcs : cells + 300 ≤ 601024 ∧ slots + 2000 ≤ 7293034) (h : sp_halt I ks (xs (i + 1).toNatClampNeg) (xs (i + 2).toNatClampNeg) V) (kk : ∀ (ks2 : List KY) (ad2 : AD) (V2 : VS) (H1 : Heap) (locs1 : List Loc) (ls1 : Array Slot), I ks2 V2 → ST G ks2 ad2 V2 A s.heap H1 locs1 → lv_has ls1 9 (LV ad2 i b) → W p l e R s m args below meth c H1 locs1 (cells + 300) (slots + 2000) Q (F0 m 1447 ls1 [])) : W p l e R s m args below meth c H locs cells slots Q (F0 m 408 ls []) := by
  unfold sp_halt at h
  refine lv_aload_n hC.1 hC.2.1 dL_law_408 rfl (lv_at hl 3 rfl) ?_
  refine lv_aload_n hC.1 hC.2.1 dL_law_409 rfl (lv_at hl 4 rfl) ?_
  refine lv_iload hC.1 hC.2.1 dL_law_410 (lv_at hl 0 rfl) ?_
  refine lv_iconst (v := 1) hC.1 hC.2.1 dL_law_412 (by decide) ?_
  refine lv_iadd hC.1 hC.2.1 dL_law_413 ?_
  refine va_sld hC.1 hC.2.1 hX hbl hbA hS.2.1 (hin 1 (by decide)) dL_law_414 ?_
  refine lv_aload_n hC.1 hC.2.1 dL_law_415 rfl (lv_at hl 4 rfl) ?_
  refine lv_iload hC.1 hC.2.1 dL_law_416 (lv_at hl 0 rfl) ?_
  refine lv_iconst (v := 2) hC.1 hC.2.1 dL_law_418 (by decide) ?_
  refine lv_iadd hC.1 hC.2.1 dL_law_419 ?_
  refine va_sld hC.1 hC.2.1 hX hbl hbA hS.2.1 (hin 2 (by decide)) dL_law_420 ?_
  refine lv_aload_n hC.1 hC.2.1 dL_law_421 rfl (lv_at hl 1 rfl) ?_
  refine g_calli hS (g_runW (n := 4) (rest := []) (As := [.ref (ad 0 0 0), .int (xs (i + 1).toNatClampNeg), .int (xs (i + 2).toNatClampNeg), .ref (ad 34 0 0)]) hC hS (c_L_halt l hlf G ks ad (xs (i + 1).toNatClampNeg) (xs (i + 2).toNatClampNeg) V _ h _) (gIW wq_603 wq_604 wq_38 wq_605) ⟨⟨by decide +kernel, by decide +kernel, by decide +kernel⟩, rfl, rfl, by subst hR; exact Nat.le_of_ble_eq_true rfl, by subst hR; exact Nat.le_of_ble_eq_true rfl⟩ rfl hl rfl (Nat.le_of_ble_eq_true rfl) dL_law_422 ⟨by subst hR; show cells + 2 ≤ 601024; omega, by subst hR; show slots + 12 ≤ 7293034; omega⟩) (fun k V1 H locs h hS => ?_)
  obtain ⟨hk15, h⟩ := h
  refine lv_istore (lv' := [(5, .int k), (4, .int i), (3, .ref (ad 34 0 0)), (2, .ref (ad 15 0 0)), (1, .ref (ad 0 0 0)), (0, .ref b)]) hC.1 hC.2.1 dL_law_425 hl (by decide) rfl (fun ls hl => ?_)
  refine lv_aload_n hC.1 hC.2.1 dL_law_427 rfl (lv_at hl 3 rfl) ?_
  refine lv_aload_n hC.1 hC.2.1 dL_law_428 rfl (lv_at hl 5 rfl) ?_
  refine lv_iload hC.1 hC.2.1 dL_law_429 (lv_at hl 1 rfl) ?_
  refine lv_iconst (v := 1) hC.1 hC.2.1 dL_law_431 (by decide) ?_
  refine lv_iadd hC.1 hC.2.1 dL_law_432 ?_
  refine va_sld hC.1 hC.2.1 hX hbl hbA hS.2.1 (hin 1 (by decide)) dL_law_433 ?_
  refine lv_aload_n hC.1 hC.2.1 dL_law_434 rfl (lv_at hl 5 rfl) ?_
  refine lv_iload hC.1 hC.2.1 dL_law_435 (lv_at hl 1 rfl) ?_
  refine lv_iconst (v := 2) hC.1 hC.2.1 dL_law_437 (by decide) ?_
  refine lv_iadd hC.1 hC.2.1 dL_law_438 ?_
  refine va_sld hC.1 hC.2.1 hX hbl hbA hS.2.1 (hin 2 (by decide)) dL_law_439 ?_
  refine g_calli hS (g_runV (n := 2) (rest := []) (As := [.int (xs (i + 1).toNatClampNeg), .int (xs (i + 2).toNatClampNeg)]) (C := RX10) (T := TX10) (N := 13) hC hS hk15 rfl rfl (c_X10_halt l G ks ad (xs (i + 1).toNatClampNeg) (xs (i + 2).toNatClampNeg) V1 _ h _) (gI wq_1127 wq_1128 wq_1129 wq_46 wq_1130) rfl ⟨⟨by decide +kernel, by decide +kernel, by decide +kernel⟩, rfl, rfl, by subst hR; exact Nat.le_of_ble_eq_true rfl, by subst hR; exact Nat.le_of_ble_eq_true rfl⟩ rfl hl rfl (Nat.le_of_ble_eq_true rfl) dL_law_440 ⟨by subst hR; show cells + 2 + 0 ≤ 601024; omega, by subst hR; show slots + 12 + 0 ≤ 7293034; omega⟩) (fun b9 V2 H locs h hS => ?_)
  refine W.widen (k := cells + 300) (n := slots + 2000) (by omega) (by omega) ?_
  refine lv_istore (lv' := [(6, .int b9), (5, .int k), (4, .int i), (3, .ref (ad 34 0 0)), (2, .ref (ad 15 0 0)), (1, .ref (ad 0 0 0)), (0, .ref b)]) hC.1 hC.2.1 dL_law_443 hl (by decide) rfl (fun ls hl => ?_)
  refine lv_aload_n hC.1 hC.2.1 dL_law_445 rfl (lv_at hl 4 rfl) ?_
  refine g_calli0 hS (g_runV (n := 0) (rest := []) (As := []) (C := RX10) (T := TX10) (N := 13) hC hS hk15 rfl rfl (c_X10_thrown l G ks ad V2 _ h _) (gI wq_1094 wq_1095 wq_1096 wq_46 wq_1097) rfl ⟨⟨by decide +kernel, by decide +kernel, by decide +kernel⟩, rfl, rfl, by subst hR; exact Nat.le_of_ble_eq_true rfl, by subst hR; exact Nat.le_of_ble_eq_true rfl⟩ rfl hl rfl (Nat.le_of_ble_eq_true rfl) dL_law_446 ⟨by subst hR; exact hcs.1, by subst hR; exact hcs.2⟩) (fun t9 V3 H locs h hS => ?_)
  obtain ⟨ht, hb9, hk34, h⟩ := h
  refine lv_iload hC.1 hC.2.1 dL_law_449 (lv_at hl 1 rfl) ?_
  refine lv_icmp_eq (tgt := 456) hC.1 hC.2.1 dL_law_451 (by decide) (fun _ => ?_) (fun z => absurd ht z)
  refine lv_iload hC.1 hC.2.1 dL_law_456 (lv_at hl 1 rfl) ?_
  refine lv_if_ne (tgt := 473) hC.1 hC.2.1 dL_law_458 (by decide) (fun _ => ?_) (fun hz => ?_)
  · refine lv_goto (tgt := 1447) hC.1 hC.2.1 dL_law_473 (by decide) ?_
    exact kk ks ad V3 H locs ls h hS (lv_sub hl [2, 3, 4, 5, 6] rfl)
  · refine lv_aload_n hC.1 hC.2.1 dL_law_461 rfl (lv_at hl 3 rfl) ?_
    refine lv_iconst (v := 0) hC.1 hC.2.1 dL_law_462 (by decide) ?_
    refine g_outld hC hS hk34 dL_law_463 ?_
    refine lv_iload hC.1 hC.2.1 dL_law_464 (lv_at hl 0 rfl) ?_
    refine lv_i2l hC.1 hC.2.1 dL_law_466 rfl ?_
    refine W.lcmp hC.1 hC.2.1 dL_law_467 ?_
    rw [hb9 hz, lg_same]
    refine lv_if_eq (tgt := 473) hC.1 hC.2.1 dL_law_468 (by decide) (fun _ => ?_) (fun z => absurd rfl z)
    refine lv_goto (tgt := 1447) hC.1 hC.2.1 dL_law_473 (by decide) ?_
    exact kk ks ad V3 H locs ls h hS (lv_sub hl [2, 3, 4, 5, 6] rfl)
def sp_lane (I : List KY → VS → Prop) (ks : List KY) (a1 : Int32) (a2 : Int32) (V : VS) : Prop := wp_L_lane ks a1 a2 V (fun k V1 => (15, 0, 0) ∈ ks ∧ wp_X10_lane ks a1 a2 V1 (fun b V2 => wp_X10_thrown ks V2 (fun t V3 => t = k ∧ (k = 0 → V3 34 0 0 0 0 = b) ∧ (34, 0, 0) ∈ ks ∧ I ks V3)))
set_option maxHeartbeats 4000000 in
set_option maxRecDepth 100000 in
theorem k_lane {p : Program} {l : Launch} {e : Env} {R : Room} {s : State} {m : MethodId} {args : Array Value} {below : List Frame} {meth : Method} {c : Code} {H : Heap} {locs : List Loc} {cells slots : Nat} {Q : State → Prop} {ls : Array Slot} {G : GG} {ks : List KY} {ad : AD} {V : VS} {A : Nat → Prop} {b L : Nat} {xs : Nat → Int32} {i : Int32} {I : List KY → VS → Prop} (hlf : l.stackTraces = false) (hR : R = room_1) (hC : CX p s m args c cL_law 9 RL G A) (hS : ST G ks ad V A s.heap H locs) (hX : va_X b L xs s s.heap) (hbl : b < s.heap.size) (hbA : ¬ A b) (hin : ∀ j : Int32, j = 1 ∨ j = 2 ∨ j = 3 ∨ j = 4 → vp_in (i + j) L) (hl : lv_has ls 9 (LV ad i b)) (hcs : cells + 300 ≤ 601024 ∧ slots + 2000 ≤ 7293034) (h : sp_lane I ks (xs (i + 1).toNatClampNeg) (xs (i + 2).toNatClampNeg) V) (kk : ∀ (ks2 : List KY) (ad2 : AD) (V2 : VS) (H1 : Heap) (locs1 : List Loc) (ls1 : Array Slot), I ks2 V2 → ST G ks2 ad2 V2 A s.heap H1 locs1 → lv_has ls1 9 (LV ad2 i b) → W p l e R s m args below meth c H1 locs1 (cells + 300) (slots + 2000) Q (F0 m 1447 ls1 [])) : W p l e R s m args below meth c H locs cells slots Q (F0 m 476 ls []) := by
  unfold sp_lane at h
  refine lv_aload_n hC.1 hC.2.1 dL_law_476 rfl (lv_at hl 3 rfl) ?_
  refine lv_aload_n hC.1 hC.2.1 dL_law_477 rfl (lv_at hl 4 rfl) ?_
  refine lv_iload hC.1 hC.2.1 dL_law_478 (lv_at hl 0 rfl) ?_
  refine lv_iconst (v := 1) hC.1 hC.2.1 dL_law_480 (by decide) ?_
  refine lv_iadd hC.1 hC.2.1 dL_law_481 ?_
  refine va_sld hC.1 hC.2.1 hX hbl hbA hS.2.1 (hin 1 (by decide)) dL_law_482 ?_
  refine lv_aload_n hC.1 hC.2.1 dL_law_483 rfl (lv_at hl 4 rfl) ?_
  refine lv_iload hC.1 hC.2.1 dL_law_484 (lv_at hl 0 rfl) ?_
  refine lv_iconst (v := 2) hC.1 hC.2.1 dL_law_486 (by decide) ?_
  refine lv_iadd hC.1 hC.2.1 dL_law_487 ?_
  refine va_sld hC.1 hC.2.1 hX hbl hbA hS.2.1 (hin 2 (by decide)) dL_law_488 ?_
  refine lv_aload_n hC.1 hC.2.1 dL_law_489 rfl (lv_at hl 1 rfl) ?_
  refine g_calli hS (g_runW (n := 4) (rest := []) (As := [.ref (ad 0 0 0), .int (xs (i + 1).toNatClampNeg), .int (xs (i + 2).toNatClampNeg), .ref (ad 34 0 0)]) hC hS (c_L_lane l hlf G ks ad (xs (i + 1).toNatClampNeg) (xs (i + 2).toNatClampNeg) V _ h _) (gIW wq_611 wq_612 wq_38 wq_613) ⟨⟨by decide +kernel, by decide +kernel, by decide +kernel⟩, rfl, rfl, by subst hR; exact Nat.le_of_ble_eq_true rfl, by subst hR; exact Nat.le_of_ble_eq_true rfl⟩ rfl hl rfl (Nat.le_of_ble_eq_true rfl) dL_law_490 ⟨by subst hR; show cells + 2 ≤ 601024; omega, by subst hR; show slots + 12 ≤ 7293034; omega⟩) (fun k V1 H locs h hS => ?_)
  obtain ⟨hk15, h⟩ := h
  refine lv_istore (lv' := [(5, .int k), (4, .int i), (3, .ref (ad 34 0 0)), (2, .ref (ad 15 0 0)), (1, .ref (ad 0 0 0)), (0, .ref b)]) hC.1 hC.2.1 dL_law_493 hl (by decide) rfl (fun ls hl => ?_)
  refine lv_aload_n hC.1 hC.2.1 dL_law_495 rfl (lv_at hl 3 rfl) ?_
  refine lv_aload_n hC.1 hC.2.1 dL_law_496 rfl (lv_at hl 5 rfl) ?_
  refine lv_iload hC.1 hC.2.1 dL_law_497 (lv_at hl 1 rfl) ?_
  refine lv_iconst (v := 1) hC.1 hC.2.1 dL_law_499 (by decide) ?_
  refine lv_iadd hC.1 hC.2.1 dL_law_500 ?_
  refine va_sld hC.1 hC.2.1 hX hbl hbA hS.2.1 (hin 1 (by decide)) dL_law_501 ?_
  refine lv_aload_n hC.1 hC.2.1 dL_law_502 rfl (lv_at hl 5 rfl) ?_
  refine lv_iload hC.1 hC.2.1 dL_law_503 (lv_at hl 1 rfl) ?_
  refine lv_iconst (v := 2) hC.1 hC.2.1 dL_law_505 (by decide) ?_
  refine lv_iadd hC.1 hC.2.1 dL_law_506 ?_
  refine va_sld hC.1 hC.2.1 hX hbl hbA hS.2.1 (hin 2 (by decide)) dL_law_507 ?_
  refine g_calli hS (g_runV (n := 2) (rest := []) (As := [.int (xs (i + 1).toNatClampNeg), .int (xs (i + 2).toNatClampNeg)]) (C := RX10) (T := TX10) (N := 13) hC hS hk15 rfl rfl (c_X10_lane l G ks ad (xs (i + 1).toNatClampNeg) (xs (i + 2).toNatClampNeg) V1 _ h _) (gI wq_1135 wq_1136 wq_1137 wq_46 wq_1138) rfl ⟨⟨by decide +kernel, by decide +kernel, by decide +kernel⟩, rfl, rfl, by subst hR; exact Nat.le_of_ble_eq_true rfl, by subst hR; exact Nat.le_of_ble_eq_true rfl⟩ rfl hl rfl (Nat.le_of_ble_eq_true rfl) dL_law_508 ⟨by subst hR; show cells + 2 + 0 ≤ 601024; omega, by subst hR; show slots + 12 + 0 ≤ 7293034; omega⟩) (fun b9 V2 H locs h hS => ?_)
  refine W.widen (k := cells + 300) (n := slots + 2000) (by omega) (by omega) ?_
  refine lv_istore (lv' := [(6, .int b9), (5, .int k), (4, .int i), (3, .ref (ad 34 0 0)), (2, .ref (ad 15 0 0)), (1, .ref (ad 0 0 0)), (0, .ref b)]) hC.1 hC.2.1 dL_law_511 hl (by decide) rfl (fun ls hl => ?_)
  refine lv_aload_n hC.1 hC.2.1 dL_law_513 rfl (lv_at hl 4 rfl) ?_
  refine g_calli0 hS (g_runV (n := 0) (rest := []) (As := []) (C := RX10) (T := TX10) (N := 13) hC hS hk15 rfl rfl (c_X10_thrown l G ks ad V2 _ h _) (gI wq_1094 wq_1095 wq_1096 wq_46 wq_1097) rfl ⟨⟨by decide +kernel, by decide +kernel, by decide +kernel⟩, rfl, rfl, by subst hR; exact Nat.le_of_ble_eq_true rfl, by subst hR; exact Nat.le_of_ble_eq_true rfl⟩ rfl hl rfl (Nat.le_of_ble_eq_true rfl) dL_law_514 ⟨by subst hR; exact hcs.1, by subst hR; exact hcs.2⟩) (fun t9 V3 H locs h hS => ?_)
  obtain ⟨ht, hb9, hk34, h⟩ := h
  refine lv_iload hC.1 hC.2.1 dL_law_517 (lv_at hl 1 rfl) ?_
  refine lv_icmp_eq (tgt := 524) hC.1 hC.2.1 dL_law_519 (by decide) (fun _ => ?_) (fun z => absurd ht z)
  refine lv_iload hC.1 hC.2.1 dL_law_524 (lv_at hl 1 rfl) ?_
  refine lv_if_ne (tgt := 541) hC.1 hC.2.1 dL_law_526 (by decide) (fun _ => ?_) (fun hz => ?_)
  · refine lv_goto (tgt := 1447) hC.1 hC.2.1 dL_law_541 (by decide) ?_
    exact kk ks ad V3 H locs ls h hS (lv_sub hl [2, 3, 4, 5, 6] rfl)
  · refine lv_aload_n hC.1 hC.2.1 dL_law_529 rfl (lv_at hl 3 rfl) ?_
    refine lv_iconst (v := 0) hC.1 hC.2.1 dL_law_530 (by decide) ?_
    refine g_outld hC hS hk34 dL_law_531 ?_
    refine lv_iload hC.1 hC.2.1 dL_law_532 (lv_at hl 0 rfl) ?_
    refine lv_i2l hC.1 hC.2.1 dL_law_534 rfl ?_
    refine W.lcmp hC.1 hC.2.1 dL_law_535 ?_
    rw [hb9 hz, lg_same]
    refine lv_if_eq (tgt := 541) hC.1 hC.2.1 dL_law_536 (by decide) (fun _ => ?_) (fun z => absurd rfl z)
    refine lv_goto (tgt := 1447) hC.1 hC.2.1 dL_law_541 (by decide) ?_
    exact kk ks ad V3 H locs ls h hS (lv_sub hl [2, 3, 4, 5, 6] rfl)
def sp_way (I : List KY → VS → Prop) (ks : List KY) (a1 : Int32) (a2 : Int32) (V : VS) : Prop := wp_L_way ks a1 a2 V (fun k V1 => (15, 0, 0) ∈ ks ∧ wp_X10_way ks a1 a2 V1 (fun b V2 => wp_X10_thrown ks V2 (fun t V3 => t = k ∧ (k = 0 → V3 34 0 0 0 0 = b) ∧ (34, 0, 0) ∈ ks ∧ I ks V3)))
set_option maxHeartbeats 4000000 in
set_option maxRecDepth 100000 in
theorem k_way {p : Program} {l : Launch} {e : Env} {R : Room} {s : State} {m : MethodId} {args : Array Value} {below : List Frame} {meth : Method} {c : Code} {H : Heap} {locs : List Loc} {cells slots : Nat} {Q : State → Prop} {ls : Array Slot} {G : GG} {ks : List KY} {ad : AD} {V : VS} {A : Nat → Prop} {b L : Nat} {xs : Nat → Int32} {i : Int32} {I : List KY → VS → Prop} (hlf : l.stackTraces = false) (hR : R = room_1) (hC : CX p s m args c cL_law 9 RL G A) (hS : ST G ks ad V A s.heap H locs) (hX : va_X b L xs s s.heap) (hbl : b < s.heap.size) (hbA : ¬ A b) (hin : ∀ j : Int32, j = 1 ∨ j = 2 ∨ j = 3 ∨ j = 4 → vp_in (i + j) L) (hl : lv_has ls 9 (LV ad i b)) (hcs : cells + 300 ≤ 601024 ∧ slots + 2000 ≤ 7293034) (h : sp_way I ks (xs (i + 1).toNatClampNeg) (xs (i + 2).toNatClampNeg) V) (kk : ∀ (ks2 : List KY) (ad2 : AD) (V2 : VS) (H1 : Heap) (locs1 : List Loc) (ls1 : Array Slot), I ks2 V2 → ST G ks2 ad2 V2 A s.heap H1 locs1 → lv_has ls1 9 (LV ad2 i b) → W p l e R s m args below meth c H1 locs1 (cells + 300) (slots + 2000) Q (F0 m 1447 ls1 [])) : W p l e R s m args below meth c H locs cells slots Q (F0 m 544 ls []) := by
  unfold sp_way at h
  refine lv_aload_n hC.1 hC.2.1 dL_law_544 rfl (lv_at hl 3 rfl) ?_
  refine lv_aload_n hC.1 hC.2.1 dL_law_545 rfl (lv_at hl 4 rfl) ?_
  refine lv_iload hC.1 hC.2.1 dL_law_546 (lv_at hl 0 rfl) ?_
  refine lv_iconst (v := 1) hC.1 hC.2.1 dL_law_548 (by decide) ?_
  refine lv_iadd hC.1 hC.2.1 dL_law_549 ?_
  refine va_sld hC.1 hC.2.1 hX hbl hbA hS.2.1 (hin 1 (by decide)) dL_law_550 ?_
  refine lv_aload_n hC.1 hC.2.1 dL_law_551 rfl (lv_at hl 4 rfl) ?_
  refine lv_iload hC.1 hC.2.1 dL_law_552 (lv_at hl 0 rfl) ?_
  refine lv_iconst (v := 2) hC.1 hC.2.1 dL_law_554 (by decide) ?_
  refine lv_iadd hC.1 hC.2.1 dL_law_555 ?_
  refine va_sld hC.1 hC.2.1 hX hbl hbA hS.2.1 (hin 2 (by decide)) dL_law_556 ?_
  refine lv_aload_n hC.1 hC.2.1 dL_law_557 rfl (lv_at hl 1 rfl) ?_
  refine g_calli hS (g_runW (n := 4) (rest := []) (As := [.ref (ad 0 0 0), .int (xs (i + 1).toNatClampNeg), .int (xs (i + 2).toNatClampNeg), .ref (ad 34 0 0)]) hC hS (c_L_way l hlf G ks ad (xs (i + 1).toNatClampNeg) (xs (i + 2).toNatClampNeg) V _ h _) (gIW wq_619 wq_620 wq_38 wq_621) ⟨⟨by decide +kernel, by decide +kernel, by decide +kernel⟩, rfl, rfl, by subst hR; exact Nat.le_of_ble_eq_true rfl, by subst hR; exact Nat.le_of_ble_eq_true rfl⟩ rfl hl rfl (Nat.le_of_ble_eq_true rfl) dL_law_558 ⟨by subst hR; show cells + 2 ≤ 601024; omega, by subst hR; show slots + 12 ≤ 7293034; omega⟩) (fun k V1 H locs h hS => ?_)
  obtain ⟨hk15, h⟩ := h
  refine lv_istore (lv' := [(5, .int k), (4, .int i), (3, .ref (ad 34 0 0)), (2, .ref (ad 15 0 0)), (1, .ref (ad 0 0 0)), (0, .ref b)]) hC.1 hC.2.1 dL_law_561 hl (by decide) rfl (fun ls hl => ?_)
  refine lv_aload_n hC.1 hC.2.1 dL_law_563 rfl (lv_at hl 3 rfl) ?_
  refine lv_aload_n hC.1 hC.2.1 dL_law_564 rfl (lv_at hl 5 rfl) ?_
  refine lv_iload hC.1 hC.2.1 dL_law_565 (lv_at hl 1 rfl) ?_
  refine lv_iconst (v := 1) hC.1 hC.2.1 dL_law_567 (by decide) ?_
  refine lv_iadd hC.1 hC.2.1 dL_law_568 ?_
  refine va_sld hC.1 hC.2.1 hX hbl hbA hS.2.1 (hin 1 (by decide)) dL_law_569 ?_
  refine lv_aload_n hC.1 hC.2.1 dL_law_570 rfl (lv_at hl 5 rfl) ?_
  refine lv_iload hC.1 hC.2.1 dL_law_571 (lv_at hl 1 rfl) ?_
  refine lv_iconst (v := 2) hC.1 hC.2.1 dL_law_573 (by decide) ?_
  refine lv_iadd hC.1 hC.2.1 dL_law_574 ?_
  refine va_sld hC.1 hC.2.1 hX hbl hbA hS.2.1 (hin 2 (by decide)) dL_law_575 ?_
  refine g_calli hS (g_runV (n := 2) (rest := []) (As := [.int (xs (i + 1).toNatClampNeg), .int (xs (i + 2).toNatClampNeg)]) (C := RX10) (T := TX10) (N := 13) hC hS hk15 rfl rfl (c_X10_way l G ks ad (xs (i + 1).toNatClampNeg) (xs (i + 2).toNatClampNeg) V1 _ h _) (gI wq_1147 wq_1148 wq_1149 wq_46 wq_1150) rfl ⟨⟨by decide +kernel, by decide +kernel, by decide +kernel⟩, rfl, rfl, by subst hR; exact Nat.le_of_ble_eq_true rfl, by subst hR; exact Nat.le_of_ble_eq_true rfl⟩ rfl hl rfl (Nat.le_of_ble_eq_true rfl) dL_law_576 ⟨by subst hR; show cells + 2 + 0 ≤ 601024; omega, by subst hR; show slots + 12 + 0 ≤ 7293034; omega⟩) (fun b9 V2 H locs h hS => ?_)
  refine W.widen (k := cells + 300) (n := slots + 2000) (by omega) (by omega) ?_
  refine lv_istore (lv' := [(6, .int b9), (5, .int k), (4, .int i), (3, .ref (ad 34 0 0)), (2, .ref (ad 15 0 0)), (1, .ref (ad 0 0 0)), (0, .ref b)]) hC.1 hC.2.1 dL_law_579 hl (by decide) rfl (fun ls hl => ?_)
  refine lv_aload_n hC.1 hC.2.1 dL_law_581 rfl (lv_at hl 4 rfl) ?_
  refine g_calli0 hS (g_runV (n := 0) (rest := []) (As := []) (C := RX10) (T := TX10) (N := 13) hC hS hk15 rfl rfl (c_X10_thrown l G ks ad V2 _ h _) (gI wq_1094 wq_1095 wq_1096 wq_46 wq_1097) rfl ⟨⟨by decide +kernel, by decide +kernel, by decide +kernel⟩, rfl, rfl, by subst hR; exact Nat.le_of_ble_eq_true rfl, by subst hR; exact Nat.le_of_ble_eq_true rfl⟩ rfl hl rfl (Nat.le_of_ble_eq_true rfl) dL_law_582 ⟨by subst hR; exact hcs.1, by subst hR; exact hcs.2⟩) (fun t9 V3 H locs h hS => ?_)
  obtain ⟨ht, hb9, hk34, h⟩ := h
  refine lv_iload hC.1 hC.2.1 dL_law_585 (lv_at hl 1 rfl) ?_
  refine lv_icmp_eq (tgt := 592) hC.1 hC.2.1 dL_law_587 (by decide) (fun _ => ?_) (fun z => absurd ht z)
  refine lv_iload hC.1 hC.2.1 dL_law_592 (lv_at hl 1 rfl) ?_
  refine lv_if_ne (tgt := 609) hC.1 hC.2.1 dL_law_594 (by decide) (fun _ => ?_) (fun hz => ?_)
  · refine lv_goto (tgt := 1447) hC.1 hC.2.1 dL_law_609 (by decide) ?_
    exact kk ks ad V3 H locs ls h hS (lv_sub hl [2, 3, 4, 5, 6] rfl)
  · refine lv_aload_n hC.1 hC.2.1 dL_law_597 rfl (lv_at hl 3 rfl) ?_
    refine lv_iconst (v := 0) hC.1 hC.2.1 dL_law_598 (by decide) ?_
    refine g_outld hC hS hk34 dL_law_599 ?_
    refine lv_iload hC.1 hC.2.1 dL_law_600 (lv_at hl 0 rfl) ?_
    refine lv_i2l hC.1 hC.2.1 dL_law_602 rfl ?_
    refine W.lcmp hC.1 hC.2.1 dL_law_603 ?_
    rw [hb9 hz, lg_same]
    refine lv_if_eq (tgt := 609) hC.1 hC.2.1 dL_law_604 (by decide) (fun _ => ?_) (fun z => absurd rfl z)
    refine lv_goto (tgt := 1447) hC.1 hC.2.1 dL_law_609 (by decide) ?_
    exact kk ks ad V3 H locs ls h hS (lv_sub hl [2, 3, 4, 5, 6] rfl)
def sp_addBook (I : List KY → VS → Prop) (ks : List KY) (a1 : Int32) (V : VS) : Prop := wp_L_addBook ks a1 V (fun k u => (15, 0, 0) ∈ u.1 ∧ wp_X10_addBook u.1 a1 u.2 (fun b V2 => wp_X10_thrown u.1 V2 (fun t V3 => t = k ∧ (k = 0 → V3 34 0 0 0 0 = b) ∧ (34, 0, 0) ∈ u.1 ∧ I u.1 V3)))
set_option maxHeartbeats 4000000 in
set_option maxRecDepth 100000 in
theorem k_addBook {p : Program} {l : Launch} {e : Env} {R : Room} {s : State} {m : MethodId} {args : Array Value} {below : List Frame} {meth : Method} {c : Code} {H : Heap} {locs : List Loc} {cells slots : Nat} {Q : State → Prop} {ls : Array Slot} {G : GG} {ks : List KY} {ad : AD} {V : VS} {A : Nat → Prop} {b L : Nat} {xs : Nat → Int32} {i : Int32} {I : List KY → VS → Prop} (hlf : l.stackTraces = false) (hR : R = room_1) (hC : CX p s m args c cL_law 9 RL G A) (hS : ST G ks ad V A s.heap H locs) (hX : va_X b L xs s s.heap) (hbl : b < s.heap.size) (hbA : ¬ A b) (hin : ∀ j : Int32, j = 1 ∨ j = 2 ∨ j = 3 ∨ j = 4 → vp_in (i + j) L) (hl : lv_has ls 9 (LV ad i b)) (hcs : cells + 300 ≤ 601024 ∧ slots + 2000 ≤ 7293034) (h : sp_addBook I ks (xs (i + 1).toNatClampNeg) V) (kk : ∀ (ks2 : List KY) (ad2 : AD) (V2 : VS) (H1 : Heap) (locs1 : List Loc) (ls1 : Array Slot), I ks2 V2 → ST G ks2 ad2 V2 A s.heap H1 locs1 → lv_has ls1 9 (LV ad2 i b) → W p l e R s m args below meth c H1 locs1 (cells + 300) (slots + 2000) Q (F0 m 1447 ls1 [])) : W p l e R s m args below meth c H locs cells slots Q (F0 m 612 ls []) := by
  unfold sp_addBook at h
  refine lv_aload_n hC.1 hC.2.1 dL_law_612 rfl (lv_at hl 3 rfl) ?_
  refine lv_aload_n hC.1 hC.2.1 dL_law_613 rfl (lv_at hl 4 rfl) ?_
  refine lv_iload hC.1 hC.2.1 dL_law_614 (lv_at hl 0 rfl) ?_
  refine lv_iconst (v := 1) hC.1 hC.2.1 dL_law_616 (by decide) ?_
  refine lv_iadd hC.1 hC.2.1 dL_law_617 ?_
  refine va_sld hC.1 hC.2.1 hX hbl hbA hS.2.1 (hin 1 (by decide)) dL_law_618 ?_
  refine lv_aload_n hC.1 hC.2.1 dL_law_619 rfl (lv_at hl 1 rfl) ?_
  refine g_calliN hS (g_runW (n := 3) (rest := []) (As := [.ref (ad 0 0 0), .int (xs (i + 1).toNatClampNeg), .ref (ad 34 0 0)]) hC hS (c_L_addBook l hlf G ks ad (xs (i + 1).toNatClampNeg) V _ h _) (gIW wq_650 wq_651 wq_38 wq_652) ⟨⟨by decide +kernel, by decide +kernel, by decide +kernel⟩, rfl, rfl, by subst hR; exact Nat.le_of_ble_eq_true rfl, by subst hR; exact Nat.le_of_ble_eq_true rfl⟩ rfl hl rfl (Nat.le_of_ble_eq_true rfl) dL_law_620 ⟨by subst hR; show cells + 8 ≤ 601024; omega, by subst hR; show slots + 102 ≤ 7293034; omega⟩) (fun k ks1 ad1 V1 H locs h hag hS => ?_)
  have hl : lv_has ls 9 (LV ad1 i b) := by unfold LV at hl ⊢; rw [hag 0 0 0 (by decide) (by decide), hag 15 0 0 (by decide) (by decide), hag 34 0 0 (by decide) (by decide)]; exact hl
  obtain ⟨hk15, h⟩ := h
  refine lv_istore (lv' := [(5, .int k), (4, .int i), (3, .ref (ad1 34 0 0)), (2, .ref (ad1 15 0 0)), (1, .ref (ad1 0 0 0)), (0, .ref b)]) hC.1 hC.2.1 dL_law_623 hl (by decide) rfl (fun ls hl => ?_)
  refine lv_aload_n hC.1 hC.2.1 dL_law_625 rfl (lv_at hl 3 rfl) ?_
  refine lv_aload_n hC.1 hC.2.1 dL_law_626 rfl (lv_at hl 5 rfl) ?_
  refine lv_iload hC.1 hC.2.1 dL_law_627 (lv_at hl 1 rfl) ?_
  refine lv_iconst (v := 1) hC.1 hC.2.1 dL_law_629 (by decide) ?_
  refine lv_iadd hC.1 hC.2.1 dL_law_630 ?_
  refine va_sld hC.1 hC.2.1 hX hbl hbA hS.2.1 (hin 1 (by decide)) dL_law_631 ?_
  refine g_calli hS (g_runV (n := 1) (rest := []) (As := [.int (xs (i + 1).toNatClampNeg)]) (C := RX10) (T := TX10) (N := 13) hC hS hk15 rfl rfl (c_X10_addBook l G ks1 ad1 (xs (i + 1).toNatClampNeg) V1 _ h _) (gI wq_1162 wq_1163 wq_1164 wq_46 wq_1165) rfl ⟨⟨by decide +kernel, by decide +kernel, by decide +kernel⟩, rfl, rfl, by subst hR; exact Nat.le_of_ble_eq_true rfl, by subst hR; exact Nat.le_of_ble_eq_true rfl⟩ rfl hl rfl (Nat.le_of_ble_eq_true rfl) dL_law_632 ⟨by subst hR; show cells + 8 + 0 ≤ 601024; omega, by subst hR; show slots + 102 + 0 ≤ 7293034; omega⟩) (fun b9 V2 H locs h hS => ?_)
  refine W.widen (k := cells + 300) (n := slots + 2000) (by omega) (by omega) ?_
  refine lv_istore (lv' := [(6, .int b9), (5, .int k), (4, .int i), (3, .ref (ad1 34 0 0)), (2, .ref (ad1 15 0 0)), (1, .ref (ad1 0 0 0)), (0, .ref b)]) hC.1 hC.2.1 dL_law_635 hl (by decide) rfl (fun ls hl => ?_)
  refine lv_aload_n hC.1 hC.2.1 dL_law_637 rfl (lv_at hl 4 rfl) ?_
  refine g_calli0 hS (g_runV (n := 0) (rest := []) (As := []) (C := RX10) (T := TX10) (N := 13) hC hS hk15 rfl rfl (c_X10_thrown l G ks1 ad1 V2 _ h _) (gI wq_1094 wq_1095 wq_1096 wq_46 wq_1097) rfl ⟨⟨by decide +kernel, by decide +kernel, by decide +kernel⟩, rfl, rfl, by subst hR; exact Nat.le_of_ble_eq_true rfl, by subst hR; exact Nat.le_of_ble_eq_true rfl⟩ rfl hl rfl (Nat.le_of_ble_eq_true rfl) dL_law_638 ⟨by subst hR; exact hcs.1, by subst hR; exact hcs.2⟩) (fun t9 V3 H locs h hS => ?_)
  obtain ⟨ht, hb9, hk34, h⟩ := h
  refine lv_iload hC.1 hC.2.1 dL_law_641 (lv_at hl 1 rfl) ?_
  refine lv_icmp_eq (tgt := 648) hC.1 hC.2.1 dL_law_643 (by decide) (fun _ => ?_) (fun z => absurd ht z)
  refine lv_iload hC.1 hC.2.1 dL_law_648 (lv_at hl 1 rfl) ?_
  refine lv_if_ne (tgt := 665) hC.1 hC.2.1 dL_law_650 (by decide) (fun _ => ?_) (fun hz => ?_)
  · refine lv_goto (tgt := 1447) hC.1 hC.2.1 dL_law_665 (by decide) ?_
    exact kk ks1 ad1 V3 H locs ls h hS (lv_sub hl [2, 3, 4, 5, 6] rfl)
  · refine lv_aload_n hC.1 hC.2.1 dL_law_653 rfl (lv_at hl 3 rfl) ?_
    refine lv_iconst (v := 0) hC.1 hC.2.1 dL_law_654 (by decide) ?_
    refine g_outld hC hS hk34 dL_law_655 ?_
    refine lv_iload hC.1 hC.2.1 dL_law_656 (lv_at hl 0 rfl) ?_
    refine lv_i2l hC.1 hC.2.1 dL_law_658 rfl ?_
    refine W.lcmp hC.1 hC.2.1 dL_law_659 ?_
    rw [hb9 hz, lg_same]
    refine lv_if_eq (tgt := 665) hC.1 hC.2.1 dL_law_660 (by decide) (fun _ => ?_) (fun z => absurd rfl z)
    refine lv_goto (tgt := 1447) hC.1 hC.2.1 dL_law_665 (by decide) ?_
    exact kk ks1 ad1 V3 H locs ls h hS (lv_sub hl [2, 3, 4, 5, 6] rfl)
def sp_addReader (I : List KY → VS → Prop) (ks : List KY) (a1 : Int32) (a2 : Int32) (a3 : Int32) (V : VS) : Prop := wp_L_addReader ks a1 a2 a3 V (fun k u => (15, 0, 0) ∈ u.1 ∧ wp_X10_addReader u.1 a1 a2 a3 u.2 (fun b V2 => wp_X10_thrown u.1 V2 (fun t V3 => t = k ∧ (k = 0 → V3 34 0 0 0 0 = b) ∧ (34, 0, 0) ∈ u.1 ∧ I u.1 V3)))
set_option maxHeartbeats 4000000 in
set_option maxRecDepth 100000 in
theorem k_addReader {p : Program} {l : Launch} {e : Env} {R : Room} {s : State} {m : MethodId} {args : Array Value} {below : List Frame} {meth : Method} {c : Code} {H : Heap} {locs : List Loc} {cells slots : Nat} {Q : State → Prop} {ls : Array Slot} {G : GG} {ks : List KY} {ad : AD} {V : VS} {A : Nat → Prop} {b L : Nat} {xs : Nat → Int32} {i : Int32} {I : List KY → VS → Prop} (hlf : l.stackTraces = false) (hR : R = room_1) (hC : CX p s m args c cL_law 9 RL G A) (hS : ST G ks ad V A s.heap H locs) (hX : va_X b L xs s s.heap) (hbl : b < s.heap.size) (hbA : ¬ A b) (hin : ∀ j : Int32, j = 1 ∨ j = 2 ∨ j = 3 ∨ j = 4 → vp_in (i + j) L) (hl : lv_has ls 9 (LV ad i b)) (hcs : cells + 300 ≤ 601024 ∧ slots + 2000 ≤ 7293034) (h : sp_addReader I ks (xs (i + 1).toNatClampNeg) (xs (i + 2).toNatClampNeg) (xs (i + 3).toNatClampNeg) V) (kk : ∀ (ks2 : List KY) (ad2 : AD) (V2 : VS) (H1 : Heap) (locs1 : List Loc) (ls1 : Array Slot), I ks2 V2 → ST G ks2 ad2 V2 A s.heap H1 locs1 → lv_has ls1 9 (LV ad2 i b) → W p l e R s m args below meth c H1 locs1 (cells + 300) (slots + 2000) Q (F0 m 1447 ls1 [])) : W p l e R s m args below meth c H locs cells slots Q (F0 m 668 ls []) := by
  unfold sp_addReader at h
  refine lv_aload_n hC.1 hC.2.1 dL_law_668 rfl (lv_at hl 3 rfl) ?_
  refine lv_aload_n hC.1 hC.2.1 dL_law_669 rfl (lv_at hl 4 rfl) ?_
  refine lv_iload hC.1 hC.2.1 dL_law_670 (lv_at hl 0 rfl) ?_
  refine lv_iconst (v := 1) hC.1 hC.2.1 dL_law_672 (by decide) ?_
  refine lv_iadd hC.1 hC.2.1 dL_law_673 ?_
  refine va_sld hC.1 hC.2.1 hX hbl hbA hS.2.1 (hin 1 (by decide)) dL_law_674 ?_
  refine lv_aload_n hC.1 hC.2.1 dL_law_675 rfl (lv_at hl 4 rfl) ?_
  refine lv_iload hC.1 hC.2.1 dL_law_676 (lv_at hl 0 rfl) ?_
  refine lv_iconst (v := 2) hC.1 hC.2.1 dL_law_678 (by decide) ?_
  refine lv_iadd hC.1 hC.2.1 dL_law_679 ?_
  refine va_sld hC.1 hC.2.1 hX hbl hbA hS.2.1 (hin 2 (by decide)) dL_law_680 ?_
  refine lv_aload_n hC.1 hC.2.1 dL_law_681 rfl (lv_at hl 4 rfl) ?_
  refine lv_iload hC.1 hC.2.1 dL_law_682 (lv_at hl 0 rfl) ?_
  refine lv_iconst (v := 3) hC.1 hC.2.1 dL_law_684 (by decide) ?_
  refine lv_iadd hC.1 hC.2.1 dL_law_685 ?_
  refine va_sld hC.1 hC.2.1 hX hbl hbA hS.2.1 (hin 3 (by decide)) dL_law_686 ?_
  refine lv_aload_n hC.1 hC.2.1 dL_law_687 rfl (lv_at hl 1 rfl) ?_
  refine g_calliN hS (g_runW (n := 5) (rest := []) (As := [.ref (ad 0 0 0), .int (xs (i + 1).toNatClampNeg), .int (xs (i + 2).toNatClampNeg), .int (xs (i + 3).toNatClampNeg), .ref (ad 34 0 0)]) hC hS (c_L_addReader l hlf G ks ad (xs (i + 1).toNatClampNeg) (xs (i + 2).toNatClampNeg) (xs (i + 3).toNatClampNeg) V _ h _) (gIW wq_705 wq_706 wq_38 wq_707) ⟨⟨by decide +kernel, by decide +kernel, by decide +kernel⟩, rfl, rfl, by subst hR; exact Nat.le_of_ble_eq_true rfl, by subst hR; exact Nat.le_of_ble_eq_true rfl⟩ rfl hl rfl (Nat.le_of_ble_eq_true rfl) dL_law_688 ⟨by subst hR; show cells + 5 ≤ 601024; omega, by subst hR; show slots + 88 ≤ 7293034; omega⟩) (fun k ks1 ad1 V1 H locs h hag hS => ?_)
  have hl : lv_has ls 9 (LV ad1 i b) := by unfold LV at hl ⊢; rw [hag 0 0 0 (by decide) (by decide), hag 15 0 0 (by decide) (by decide), hag 34 0 0 (by decide) (by decide)]; exact hl
  obtain ⟨hk15, h⟩ := h
  refine lv_istore (lv' := [(5, .int k), (4, .int i), (3, .ref (ad1 34 0 0)), (2, .ref (ad1 15 0 0)), (1, .ref (ad1 0 0 0)), (0, .ref b)]) hC.1 hC.2.1 dL_law_691 hl (by decide) rfl (fun ls hl => ?_)
  refine lv_aload_n hC.1 hC.2.1 dL_law_693 rfl (lv_at hl 3 rfl) ?_
  refine lv_aload_n hC.1 hC.2.1 dL_law_694 rfl (lv_at hl 5 rfl) ?_
  refine lv_iload hC.1 hC.2.1 dL_law_695 (lv_at hl 1 rfl) ?_
  refine lv_iconst (v := 1) hC.1 hC.2.1 dL_law_697 (by decide) ?_
  refine lv_iadd hC.1 hC.2.1 dL_law_698 ?_
  refine va_sld hC.1 hC.2.1 hX hbl hbA hS.2.1 (hin 1 (by decide)) dL_law_699 ?_
  refine lv_aload_n hC.1 hC.2.1 dL_law_700 rfl (lv_at hl 5 rfl) ?_
  refine lv_iload hC.1 hC.2.1 dL_law_701 (lv_at hl 1 rfl) ?_
  refine lv_iconst (v := 2) hC.1 hC.2.1 dL_law_703 (by decide) ?_
  refine lv_iadd hC.1 hC.2.1 dL_law_704 ?_
  refine va_sld hC.1 hC.2.1 hX hbl hbA hS.2.1 (hin 2 (by decide)) dL_law_705 ?_
  refine lv_aload_n hC.1 hC.2.1 dL_law_706 rfl (lv_at hl 5 rfl) ?_
  refine lv_iload hC.1 hC.2.1 dL_law_707 (lv_at hl 1 rfl) ?_
  refine lv_iconst (v := 3) hC.1 hC.2.1 dL_law_709 (by decide) ?_
  refine lv_iadd hC.1 hC.2.1 dL_law_710 ?_
  refine va_sld hC.1 hC.2.1 hX hbl hbA hS.2.1 (hin 3 (by decide)) dL_law_711 ?_
  refine g_calli hS (g_runV (n := 3) (rest := []) (As := [.int (xs (i + 1).toNatClampNeg), .int (xs (i + 2).toNatClampNeg), .int (xs (i + 3).toNatClampNeg)]) (C := RX10) (T := TX10) (N := 13) hC hS hk15 rfl rfl (c_X10_addReader l G ks1 ad1 (xs (i + 1).toNatClampNeg) (xs (i + 2).toNatClampNeg) (xs (i + 3).toNatClampNeg) V1 _ h _) (gI wq_1166 wq_1167 wq_1168 wq_46 wq_1169) rfl ⟨⟨by decide +kernel, by decide +kernel, by decide +kernel⟩, rfl, rfl, by subst hR; exact Nat.le_of_ble_eq_true rfl, by subst hR; exact Nat.le_of_ble_eq_true rfl⟩ rfl hl rfl (Nat.le_of_ble_eq_true rfl) dL_law_712 ⟨by subst hR; show cells + 5 + 1 ≤ 601024; omega, by subst hR; show slots + 88 + 3 ≤ 7293034; omega⟩) (fun b9 V2 H locs h hS => ?_)
  refine W.widen (k := cells + 300) (n := slots + 2000) (by omega) (by omega) ?_
  refine lv_istore (lv' := [(6, .int b9), (5, .int k), (4, .int i), (3, .ref (ad1 34 0 0)), (2, .ref (ad1 15 0 0)), (1, .ref (ad1 0 0 0)), (0, .ref b)]) hC.1 hC.2.1 dL_law_715 hl (by decide) rfl (fun ls hl => ?_)
  refine lv_aload_n hC.1 hC.2.1 dL_law_717 rfl (lv_at hl 4 rfl) ?_
  refine g_calli0 hS (g_runV (n := 0) (rest := []) (As := []) (C := RX10) (T := TX10) (N := 13) hC hS hk15 rfl rfl (c_X10_thrown l G ks1 ad1 V2 _ h _) (gI wq_1094 wq_1095 wq_1096 wq_46 wq_1097) rfl ⟨⟨by decide +kernel, by decide +kernel, by decide +kernel⟩, rfl, rfl, by subst hR; exact Nat.le_of_ble_eq_true rfl, by subst hR; exact Nat.le_of_ble_eq_true rfl⟩ rfl hl rfl (Nat.le_of_ble_eq_true rfl) dL_law_718 ⟨by subst hR; exact hcs.1, by subst hR; exact hcs.2⟩) (fun t9 V3 H locs h hS => ?_)
  obtain ⟨ht, hb9, hk34, h⟩ := h
  refine lv_iload hC.1 hC.2.1 dL_law_721 (lv_at hl 1 rfl) ?_
  refine lv_icmp_eq (tgt := 728) hC.1 hC.2.1 dL_law_723 (by decide) (fun _ => ?_) (fun z => absurd ht z)
  refine lv_iload hC.1 hC.2.1 dL_law_728 (lv_at hl 1 rfl) ?_
  refine lv_if_ne (tgt := 745) hC.1 hC.2.1 dL_law_730 (by decide) (fun _ => ?_) (fun hz => ?_)
  · refine lv_goto (tgt := 1447) hC.1 hC.2.1 dL_law_745 (by decide) ?_
    exact kk ks1 ad1 V3 H locs ls h hS (lv_sub hl [2, 3, 4, 5, 6] rfl)
  · refine lv_aload_n hC.1 hC.2.1 dL_law_733 rfl (lv_at hl 3 rfl) ?_
    refine lv_iconst (v := 0) hC.1 hC.2.1 dL_law_734 (by decide) ?_
    refine g_outld hC hS hk34 dL_law_735 ?_
    refine lv_iload hC.1 hC.2.1 dL_law_736 (lv_at hl 0 rfl) ?_
    refine lv_i2l hC.1 hC.2.1 dL_law_738 rfl ?_
    refine W.lcmp hC.1 hC.2.1 dL_law_739 ?_
    rw [hb9 hz, lg_same]
    refine lv_if_eq (tgt := 745) hC.1 hC.2.1 dL_law_740 (by decide) (fun _ => ?_) (fun z => absurd rfl z)
    refine lv_goto (tgt := 1447) hC.1 hC.2.1 dL_law_745 (by decide) ?_
    exact kk ks1 ad1 V3 H locs ls h hS (lv_sub hl [2, 3, 4, 5, 6] rfl)
def sp_reserve (I : List KY → VS → Prop) (ks : List KY) (a1 : Int32) (a2 : Int32) (V : VS) : Prop := wp_L_reserve ks a1 a2 V (fun k V1 => (15, 0, 0) ∈ ks ∧ wp_X10_reserve ks a1 a2 V1 (fun b V2 => wp_X10_thrown ks V2 (fun t V3 => t = k ∧ (k = 0 → V3 34 0 0 0 0 = b) ∧ (34, 0, 0) ∈ ks ∧ I ks V3)))
set_option maxHeartbeats 4000000 in
set_option maxRecDepth 100000 in
theorem k_reserve {p : Program} {l : Launch} {e : Env} {R : Room} {s : State} {m : MethodId} {args : Array Value} {below : List Frame} {meth : Method} {c : Code} {H : Heap} {locs : List Loc} {cells slots : Nat} {Q : State → Prop} {ls : Array Slot} {G : GG} {ks : List KY} {ad : AD} {V : VS} {A : Nat → Prop} {b L : Nat} {xs : Nat → Int32} {i : Int32} {I : List KY → VS → Prop} (hlf : l.stackTraces = false) (hR : R = room_1) (hC : CX p s m args c cL_law 9 RL G A) (hS : ST G ks ad V A s.heap H locs) (hX : va_X b L xs s s.heap) (hbl : b < s.heap.size) (hbA : ¬ A b) (hin : ∀ j : Int32, j = 1 ∨ j = 2 ∨ j = 3 ∨ j = 4 → vp_in (i + j) L) (hl : lv_has ls 9 (LV ad i b)) (hcs : cells + 300 ≤ 601024 ∧ slots + 2000 ≤ 7293034) (h : sp_reserve I ks (xs (i + 1).toNatClampNeg) (xs (i + 2).toNatClampNeg) V) (kk : ∀ (ks2 : List KY) (ad2 : AD) (V2 : VS) (H1 : Heap) (locs1 : List Loc) (ls1 : Array Slot), I ks2 V2 → ST G ks2 ad2 V2 A s.heap H1 locs1 → lv_has ls1 9 (LV ad2 i b) → W p l e R s m args below meth c H1 locs1 (cells + 300) (slots + 2000) Q (F0 m 1447 ls1 [])) : W p l e R s m args below meth c H locs cells slots Q (F0 m 748 ls []) := by
  unfold sp_reserve at h
  refine lv_aload_n hC.1 hC.2.1 dL_law_748 rfl (lv_at hl 3 rfl) ?_
  refine lv_aload_n hC.1 hC.2.1 dL_law_749 rfl (lv_at hl 4 rfl) ?_
  refine lv_iload hC.1 hC.2.1 dL_law_750 (lv_at hl 0 rfl) ?_
  refine lv_iconst (v := 1) hC.1 hC.2.1 dL_law_752 (by decide) ?_
  refine lv_iadd hC.1 hC.2.1 dL_law_753 ?_
  refine va_sld hC.1 hC.2.1 hX hbl hbA hS.2.1 (hin 1 (by decide)) dL_law_754 ?_
  refine lv_aload_n hC.1 hC.2.1 dL_law_755 rfl (lv_at hl 4 rfl) ?_
  refine lv_iload hC.1 hC.2.1 dL_law_756 (lv_at hl 0 rfl) ?_
  refine lv_iconst (v := 2) hC.1 hC.2.1 dL_law_758 (by decide) ?_
  refine lv_iadd hC.1 hC.2.1 dL_law_759 ?_
  refine va_sld hC.1 hC.2.1 hX hbl hbA hS.2.1 (hin 2 (by decide)) dL_law_760 ?_
  refine lv_aload_n hC.1 hC.2.1 dL_law_761 rfl (lv_at hl 1 rfl) ?_
  refine g_calli hS (g_runW (n := 4) (rest := []) (As := [.ref (ad 0 0 0), .int (xs (i + 1).toNatClampNeg), .int (xs (i + 2).toNatClampNeg), .ref (ad 34 0 0)]) hC hS (c_L_reserve l hlf G ks ad (xs (i + 1).toNatClampNeg) (xs (i + 2).toNatClampNeg) V _ h _) (gIW wq_758 wq_759 wq_38 wq_760) ⟨⟨by decide +kernel, by decide +kernel, by decide +kernel⟩, rfl, rfl, by subst hR; exact Nat.le_of_ble_eq_true rfl, by subst hR; exact Nat.le_of_ble_eq_true rfl⟩ rfl hl rfl (Nat.le_of_ble_eq_true rfl) dL_law_762 ⟨by subst hR; show cells + 3 ≤ 601024; omega, by subst hR; show slots + 18 ≤ 7293034; omega⟩) (fun k V1 H locs h hS => ?_)
  obtain ⟨hk15, h⟩ := h
  refine lv_istore (lv' := [(5, .int k), (4, .int i), (3, .ref (ad 34 0 0)), (2, .ref (ad 15 0 0)), (1, .ref (ad 0 0 0)), (0, .ref b)]) hC.1 hC.2.1 dL_law_765 hl (by decide) rfl (fun ls hl => ?_)
  refine lv_aload_n hC.1 hC.2.1 dL_law_767 rfl (lv_at hl 3 rfl) ?_
  refine lv_aload_n hC.1 hC.2.1 dL_law_768 rfl (lv_at hl 5 rfl) ?_
  refine lv_iload hC.1 hC.2.1 dL_law_769 (lv_at hl 1 rfl) ?_
  refine lv_iconst (v := 1) hC.1 hC.2.1 dL_law_771 (by decide) ?_
  refine lv_iadd hC.1 hC.2.1 dL_law_772 ?_
  refine va_sld hC.1 hC.2.1 hX hbl hbA hS.2.1 (hin 1 (by decide)) dL_law_773 ?_
  refine lv_aload_n hC.1 hC.2.1 dL_law_774 rfl (lv_at hl 5 rfl) ?_
  refine lv_iload hC.1 hC.2.1 dL_law_775 (lv_at hl 1 rfl) ?_
  refine lv_iconst (v := 2) hC.1 hC.2.1 dL_law_777 (by decide) ?_
  refine lv_iadd hC.1 hC.2.1 dL_law_778 ?_
  refine va_sld hC.1 hC.2.1 hX hbl hbA hS.2.1 (hin 2 (by decide)) dL_law_779 ?_
  refine g_calli hS (g_runV (n := 2) (rest := []) (As := [.int (xs (i + 1).toNatClampNeg), .int (xs (i + 2).toNatClampNeg)]) (C := RX10) (T := TX10) (N := 13) hC hS hk15 rfl rfl (c_X10_reserve l G ks ad (xs (i + 1).toNatClampNeg) (xs (i + 2).toNatClampNeg) V1 _ h _) (gI wq_1170 wq_1171 wq_1172 wq_46 wq_1173) rfl ⟨⟨by decide +kernel, by decide +kernel, by decide +kernel⟩, rfl, rfl, by subst hR; exact Nat.le_of_ble_eq_true rfl, by subst hR; exact Nat.le_of_ble_eq_true rfl⟩ rfl hl rfl (Nat.le_of_ble_eq_true rfl) dL_law_780 ⟨by subst hR; show cells + 3 + 0 ≤ 601024; omega, by subst hR; show slots + 18 + 0 ≤ 7293034; omega⟩) (fun b9 V2 H locs h hS => ?_)
  refine W.widen (k := cells + 300) (n := slots + 2000) (by omega) (by omega) ?_
  refine lv_istore (lv' := [(6, .int b9), (5, .int k), (4, .int i), (3, .ref (ad 34 0 0)), (2, .ref (ad 15 0 0)), (1, .ref (ad 0 0 0)), (0, .ref b)]) hC.1 hC.2.1 dL_law_783 hl (by decide) rfl (fun ls hl => ?_)
  refine lv_aload_n hC.1 hC.2.1 dL_law_785 rfl (lv_at hl 4 rfl) ?_
  refine g_calli0 hS (g_runV (n := 0) (rest := []) (As := []) (C := RX10) (T := TX10) (N := 13) hC hS hk15 rfl rfl (c_X10_thrown l G ks ad V2 _ h _) (gI wq_1094 wq_1095 wq_1096 wq_46 wq_1097) rfl ⟨⟨by decide +kernel, by decide +kernel, by decide +kernel⟩, rfl, rfl, by subst hR; exact Nat.le_of_ble_eq_true rfl, by subst hR; exact Nat.le_of_ble_eq_true rfl⟩ rfl hl rfl (Nat.le_of_ble_eq_true rfl) dL_law_786 ⟨by subst hR; exact hcs.1, by subst hR; exact hcs.2⟩) (fun t9 V3 H locs h hS => ?_)
  obtain ⟨ht, hb9, hk34, h⟩ := h
  refine lv_iload hC.1 hC.2.1 dL_law_789 (lv_at hl 1 rfl) ?_
  refine lv_icmp_eq (tgt := 796) hC.1 hC.2.1 dL_law_791 (by decide) (fun _ => ?_) (fun z => absurd ht z)
  refine lv_iload hC.1 hC.2.1 dL_law_796 (lv_at hl 1 rfl) ?_
  refine lv_if_ne (tgt := 813) hC.1 hC.2.1 dL_law_798 (by decide) (fun _ => ?_) (fun hz => ?_)
  · refine lv_goto (tgt := 1447) hC.1 hC.2.1 dL_law_813 (by decide) ?_
    exact kk ks ad V3 H locs ls h hS (lv_sub hl [2, 3, 4, 5, 6] rfl)
  · refine lv_aload_n hC.1 hC.2.1 dL_law_801 rfl (lv_at hl 3 rfl) ?_
    refine lv_iconst (v := 0) hC.1 hC.2.1 dL_law_802 (by decide) ?_
    refine g_outld hC hS hk34 dL_law_803 ?_
    refine lv_iload hC.1 hC.2.1 dL_law_804 (lv_at hl 0 rfl) ?_
    refine lv_i2l hC.1 hC.2.1 dL_law_806 rfl ?_
    refine W.lcmp hC.1 hC.2.1 dL_law_807 ?_
    rw [hb9 hz, lg_same]
    refine lv_if_eq (tgt := 813) hC.1 hC.2.1 dL_law_808 (by decide) (fun _ => ?_) (fun z => absurd rfl z)
    refine lv_goto (tgt := 1447) hC.1 hC.2.1 dL_law_813 (by decide) ?_
    exact kk ks ad V3 H locs ls h hS (lv_sub hl [2, 3, 4, 5, 6] rfl)
def sp_cancel (I : List KY → VS → Prop) (ks : List KY) (a1 : Int32) (a2 : Int32) (V : VS) : Prop := wp_L_cancel ks a1 a2 V (fun k V1 => (15, 0, 0) ∈ ks ∧ wp_X10_cancel ks a1 a2 V1 (fun b V2 => wp_X10_thrown ks V2 (fun t V3 => t = k ∧ (k = 0 → V3 34 0 0 0 0 = b) ∧ (34, 0, 0) ∈ ks ∧ I ks V3)))
set_option maxHeartbeats 4000000 in
set_option maxRecDepth 100000 in
theorem k_cancel {p : Program} {l : Launch} {e : Env} {R : Room} {s : State} {m : MethodId} {args : Array Value} {below : List Frame} {meth : Method} {c : Code} {H : Heap} {locs : List Loc} {cells slots : Nat} {Q : State → Prop} {ls : Array Slot} {G : GG} {ks : List KY} {ad : AD} {V : VS} {A : Nat → Prop} {b L : Nat} {xs : Nat → Int32} {i : Int32} {I : List KY → VS → Prop} (hlf : l.stackTraces = false) (hR : R = room_1) (hC : CX p s m args c cL_law 9 RL G A) (hS : ST G ks ad V A s.heap H locs) (hX : va_X b L xs s s.heap) (hbl : b < s.heap.size) (hbA : ¬ A b) (hin : ∀ j : Int32, j = 1 ∨ j = 2 ∨ j = 3 ∨ j = 4 → vp_in (i + j) L) (hl : lv_has ls 9 (LV ad i b)) (hcs : cells + 300 ≤ 601024 ∧ slots + 2000 ≤ 7293034) (h : sp_cancel I ks (xs (i + 1).toNatClampNeg) (xs (i + 2).toNatClampNeg) V) (kk : ∀ (ks2 : List KY) (ad2 : AD) (V2 : VS) (H1 : Heap) (locs1 : List Loc) (ls1 : Array Slot), I ks2 V2 → ST G ks2 ad2 V2 A s.heap H1 locs1 → lv_has ls1 9 (LV ad2 i b) → W p l e R s m args below meth c H1 locs1 (cells + 300) (slots + 2000) Q (F0 m 1447 ls1 [])) : W p l e R s m args below meth c H locs cells slots Q (F0 m 816 ls []) := by
  unfold sp_cancel at h
  refine lv_aload_n hC.1 hC.2.1 dL_law_816 rfl (lv_at hl 3 rfl) ?_
  refine lv_aload_n hC.1 hC.2.1 dL_law_817 rfl (lv_at hl 4 rfl) ?_
  refine lv_iload hC.1 hC.2.1 dL_law_818 (lv_at hl 0 rfl) ?_
  refine lv_iconst (v := 1) hC.1 hC.2.1 dL_law_820 (by decide) ?_
  refine lv_iadd hC.1 hC.2.1 dL_law_821 ?_
  refine va_sld hC.1 hC.2.1 hX hbl hbA hS.2.1 (hin 1 (by decide)) dL_law_822 ?_
  refine lv_aload_n hC.1 hC.2.1 dL_law_823 rfl (lv_at hl 4 rfl) ?_
  refine lv_iload hC.1 hC.2.1 dL_law_824 (lv_at hl 0 rfl) ?_
  refine lv_iconst (v := 2) hC.1 hC.2.1 dL_law_826 (by decide) ?_
  refine lv_iadd hC.1 hC.2.1 dL_law_827 ?_
  refine va_sld hC.1 hC.2.1 hX hbl hbA hS.2.1 (hin 2 (by decide)) dL_law_828 ?_
  refine lv_aload_n hC.1 hC.2.1 dL_law_829 rfl (lv_at hl 1 rfl) ?_
  refine g_calli hS (g_runW (n := 4) (rest := []) (As := [.ref (ad 0 0 0), .int (xs (i + 1).toNatClampNeg), .int (xs (i + 2).toNatClampNeg), .ref (ad 34 0 0)]) hC hS (c_L_cancel l hlf G ks ad (xs (i + 1).toNatClampNeg) (xs (i + 2).toNatClampNeg) V _ h _) (gIW wq_782 wq_783 wq_38 wq_784) ⟨⟨by decide +kernel, by decide +kernel, by decide +kernel⟩, rfl, rfl, by subst hR; exact Nat.le_of_ble_eq_true rfl, by subst hR; exact Nat.le_of_ble_eq_true rfl⟩ rfl hl rfl (Nat.le_of_ble_eq_true rfl) dL_law_830 ⟨by subst hR; show cells + 2 ≤ 601024; omega, by subst hR; show slots + 12 ≤ 7293034; omega⟩) (fun k V1 H locs h hS => ?_)
  obtain ⟨hk15, h⟩ := h
  refine lv_istore (lv' := [(5, .int k), (4, .int i), (3, .ref (ad 34 0 0)), (2, .ref (ad 15 0 0)), (1, .ref (ad 0 0 0)), (0, .ref b)]) hC.1 hC.2.1 dL_law_833 hl (by decide) rfl (fun ls hl => ?_)
  refine lv_aload_n hC.1 hC.2.1 dL_law_835 rfl (lv_at hl 3 rfl) ?_
  refine lv_aload_n hC.1 hC.2.1 dL_law_836 rfl (lv_at hl 5 rfl) ?_
  refine lv_iload hC.1 hC.2.1 dL_law_837 (lv_at hl 1 rfl) ?_
  refine lv_iconst (v := 1) hC.1 hC.2.1 dL_law_839 (by decide) ?_
  refine lv_iadd hC.1 hC.2.1 dL_law_840 ?_
  refine va_sld hC.1 hC.2.1 hX hbl hbA hS.2.1 (hin 1 (by decide)) dL_law_841 ?_
  refine lv_aload_n hC.1 hC.2.1 dL_law_842 rfl (lv_at hl 5 rfl) ?_
  refine lv_iload hC.1 hC.2.1 dL_law_843 (lv_at hl 1 rfl) ?_
  refine lv_iconst (v := 2) hC.1 hC.2.1 dL_law_845 (by decide) ?_
  refine lv_iadd hC.1 hC.2.1 dL_law_846 ?_
  refine va_sld hC.1 hC.2.1 hX hbl hbA hS.2.1 (hin 2 (by decide)) dL_law_847 ?_
  refine g_calli hS (g_runV (n := 2) (rest := []) (As := [.int (xs (i + 1).toNatClampNeg), .int (xs (i + 2).toNatClampNeg)]) (C := RX10) (T := TX10) (N := 13) hC hS hk15 rfl rfl (c_X10_cancel l G ks ad (xs (i + 1).toNatClampNeg) (xs (i + 2).toNatClampNeg) V1 _ h _) (gI wq_1186 wq_1187 wq_1188 wq_46 wq_1189) rfl ⟨⟨by decide +kernel, by decide +kernel, by decide +kernel⟩, rfl, rfl, by subst hR; exact Nat.le_of_ble_eq_true rfl, by subst hR; exact Nat.le_of_ble_eq_true rfl⟩ rfl hl rfl (Nat.le_of_ble_eq_true rfl) dL_law_848 ⟨by subst hR; show cells + 2 + 0 ≤ 601024; omega, by subst hR; show slots + 12 + 0 ≤ 7293034; omega⟩) (fun b9 V2 H locs h hS => ?_)
  refine W.widen (k := cells + 300) (n := slots + 2000) (by omega) (by omega) ?_
  refine lv_istore (lv' := [(6, .int b9), (5, .int k), (4, .int i), (3, .ref (ad 34 0 0)), (2, .ref (ad 15 0 0)), (1, .ref (ad 0 0 0)), (0, .ref b)]) hC.1 hC.2.1 dL_law_851 hl (by decide) rfl (fun ls hl => ?_)
  refine lv_aload_n hC.1 hC.2.1 dL_law_853 rfl (lv_at hl 4 rfl) ?_
  refine g_calli0 hS (g_runV (n := 0) (rest := []) (As := []) (C := RX10) (T := TX10) (N := 13) hC hS hk15 rfl rfl (c_X10_thrown l G ks ad V2 _ h _) (gI wq_1094 wq_1095 wq_1096 wq_46 wq_1097) rfl ⟨⟨by decide +kernel, by decide +kernel, by decide +kernel⟩, rfl, rfl, by subst hR; exact Nat.le_of_ble_eq_true rfl, by subst hR; exact Nat.le_of_ble_eq_true rfl⟩ rfl hl rfl (Nat.le_of_ble_eq_true rfl) dL_law_854 ⟨by subst hR; exact hcs.1, by subst hR; exact hcs.2⟩) (fun t9 V3 H locs h hS => ?_)
  obtain ⟨ht, hb9, hk34, h⟩ := h
  refine lv_iload hC.1 hC.2.1 dL_law_857 (lv_at hl 1 rfl) ?_
  refine lv_icmp_eq (tgt := 864) hC.1 hC.2.1 dL_law_859 (by decide) (fun _ => ?_) (fun z => absurd ht z)
  refine lv_iload hC.1 hC.2.1 dL_law_864 (lv_at hl 1 rfl) ?_
  refine lv_if_ne (tgt := 881) hC.1 hC.2.1 dL_law_866 (by decide) (fun _ => ?_) (fun hz => ?_)
  · refine lv_goto (tgt := 1447) hC.1 hC.2.1 dL_law_881 (by decide) ?_
    exact kk ks ad V3 H locs ls h hS (lv_sub hl [2, 3, 4, 5, 6] rfl)
  · refine lv_aload_n hC.1 hC.2.1 dL_law_869 rfl (lv_at hl 3 rfl) ?_
    refine lv_iconst (v := 0) hC.1 hC.2.1 dL_law_870 (by decide) ?_
    refine g_outld hC hS hk34 dL_law_871 ?_
    refine lv_iload hC.1 hC.2.1 dL_law_872 (lv_at hl 0 rfl) ?_
    refine lv_i2l hC.1 hC.2.1 dL_law_874 rfl ?_
    refine W.lcmp hC.1 hC.2.1 dL_law_875 ?_
    rw [hb9 hz, lg_same]
    refine lv_if_eq (tgt := 881) hC.1 hC.2.1 dL_law_876 (by decide) (fun _ => ?_) (fun z => absurd rfl z)
    refine lv_goto (tgt := 1447) hC.1 hC.2.1 dL_law_881 (by decide) ?_
    exact kk ks ad V3 H locs ls h hS (lv_sub hl [2, 3, 4, 5, 6] rfl)
def sp_book (I : List KY → VS → Prop) (ks : List KY) (a1 : Int32) (a2 : Int32) (V : VS) : Prop := wp_L_book ks a1 a2 V (fun k V1 => (15, 0, 0) ∈ ks ∧ wp_X10_book ks a1 a2 V1 (fun b V2 => wp_X10_thrown ks V2 (fun t V3 => t = k ∧ (k = 0 → V3 34 0 0 0 0 = b) ∧ (34, 0, 0) ∈ ks ∧ I ks V3)))
set_option maxHeartbeats 4000000 in
set_option maxRecDepth 100000 in
theorem k_book {p : Program} {l : Launch} {e : Env} {R : Room} {s : State} {m : MethodId} {args : Array Value} {below : List Frame} {meth : Method} {c : Code} {H : Heap} {locs : List Loc} {cells slots : Nat} {Q : State → Prop} {ls : Array Slot} {G : GG} {ks : List KY} {ad : AD} {V : VS} {A : Nat → Prop} {b L : Nat} {xs : Nat → Int32} {i : Int32} {I : List KY → VS → Prop} (hlf : l.stackTraces = false) (hR : R = room_1) (hC : CX p s m args c cL_law 9 RL G A) (hS : ST G ks ad V A s.heap H locs) (hX : va_X b L xs s s.heap) (hbl : b < s.heap.size) (hbA : ¬ A b) (hin : ∀ j : Int32, j = 1 ∨ j = 2 ∨ j = 3 ∨ j = 4 → vp_in (i + j) L) (hl : lv_has ls 9 (LV ad i b)) (hcs : cells + 300 ≤ 601024 ∧ slots + 2000 ≤ 7293034) (h : sp_book I ks (xs (i + 1).toNatClampNeg) (xs (i + 2).toNatClampNeg) V) (kk : ∀ (ks2 : List KY) (ad2 : AD) (V2 : VS) (H1 : Heap) (locs1 : List Loc) (ls1 : Array Slot), I ks2 V2 → ST G ks2 ad2 V2 A s.heap H1 locs1 → lv_has ls1 9 (LV ad2 i b) → W p l e R s m args below meth c H1 locs1 (cells + 300) (slots + 2000) Q (F0 m 1447 ls1 [])) : W p l e R s m args below meth c H locs cells slots Q (F0 m 884 ls []) := by
  unfold sp_book at h
  refine lv_aload_n hC.1 hC.2.1 dL_law_884 rfl (lv_at hl 3 rfl) ?_
  refine lv_aload_n hC.1 hC.2.1 dL_law_885 rfl (lv_at hl 4 rfl) ?_
  refine lv_iload hC.1 hC.2.1 dL_law_886 (lv_at hl 0 rfl) ?_
  refine lv_iconst (v := 1) hC.1 hC.2.1 dL_law_888 (by decide) ?_
  refine lv_iadd hC.1 hC.2.1 dL_law_889 ?_
  refine va_sld hC.1 hC.2.1 hX hbl hbA hS.2.1 (hin 1 (by decide)) dL_law_890 ?_
  refine lv_aload_n hC.1 hC.2.1 dL_law_891 rfl (lv_at hl 4 rfl) ?_
  refine lv_iload hC.1 hC.2.1 dL_law_892 (lv_at hl 0 rfl) ?_
  refine lv_iconst (v := 2) hC.1 hC.2.1 dL_law_894 (by decide) ?_
  refine lv_iadd hC.1 hC.2.1 dL_law_895 ?_
  refine va_sld hC.1 hC.2.1 hX hbl hbA hS.2.1 (hin 2 (by decide)) dL_law_896 ?_
  refine lv_aload_n hC.1 hC.2.1 dL_law_897 rfl (lv_at hl 1 rfl) ?_
  refine g_calli hS (g_runW (n := 4) (rest := []) (As := [.ref (ad 0 0 0), .int (xs (i + 1).toNatClampNeg), .int (xs (i + 2).toNatClampNeg), .ref (ad 34 0 0)]) hC hS (c_L_book l hlf G ks ad (xs (i + 1).toNatClampNeg) (xs (i + 2).toNatClampNeg) V _ h _) (gIW wq_793 wq_794 wq_38 wq_795) ⟨⟨by decide +kernel, by decide +kernel, by decide +kernel⟩, rfl, rfl, by subst hR; exact Nat.le_of_ble_eq_true rfl, by subst hR; exact Nat.le_of_ble_eq_true rfl⟩ rfl hl rfl (Nat.le_of_ble_eq_true rfl) dL_law_898 ⟨by subst hR; show cells + 2 ≤ 601024; omega, by subst hR; show slots + 12 ≤ 7293034; omega⟩) (fun k V1 H locs h hS => ?_)
  obtain ⟨hk15, h⟩ := h
  refine lv_istore (lv' := [(5, .int k), (4, .int i), (3, .ref (ad 34 0 0)), (2, .ref (ad 15 0 0)), (1, .ref (ad 0 0 0)), (0, .ref b)]) hC.1 hC.2.1 dL_law_901 hl (by decide) rfl (fun ls hl => ?_)
  refine lv_aload_n hC.1 hC.2.1 dL_law_903 rfl (lv_at hl 3 rfl) ?_
  refine lv_aload_n hC.1 hC.2.1 dL_law_904 rfl (lv_at hl 5 rfl) ?_
  refine lv_iload hC.1 hC.2.1 dL_law_905 (lv_at hl 1 rfl) ?_
  refine lv_iconst (v := 1) hC.1 hC.2.1 dL_law_907 (by decide) ?_
  refine lv_iadd hC.1 hC.2.1 dL_law_908 ?_
  refine va_sld hC.1 hC.2.1 hX hbl hbA hS.2.1 (hin 1 (by decide)) dL_law_909 ?_
  refine lv_aload_n hC.1 hC.2.1 dL_law_910 rfl (lv_at hl 5 rfl) ?_
  refine lv_iload hC.1 hC.2.1 dL_law_911 (lv_at hl 1 rfl) ?_
  refine lv_iconst (v := 2) hC.1 hC.2.1 dL_law_913 (by decide) ?_
  refine lv_iadd hC.1 hC.2.1 dL_law_914 ?_
  refine va_sld hC.1 hC.2.1 hX hbl hbA hS.2.1 (hin 2 (by decide)) dL_law_915 ?_
  refine g_calli hS (g_runV (n := 2) (rest := []) (As := [.int (xs (i + 1).toNatClampNeg), .int (xs (i + 2).toNatClampNeg)]) (C := RX10) (T := TX10) (N := 13) hC hS hk15 rfl rfl (c_X10_book l G ks ad (xs (i + 1).toNatClampNeg) (xs (i + 2).toNatClampNeg) V1 _ h _) (gI wq_1194 wq_1195 wq_1196 wq_46 wq_1197) rfl ⟨⟨by decide +kernel, by decide +kernel, by decide +kernel⟩, rfl, rfl, by subst hR; exact Nat.le_of_ble_eq_true rfl, by subst hR; exact Nat.le_of_ble_eq_true rfl⟩ rfl hl rfl (Nat.le_of_ble_eq_true rfl) dL_law_916 ⟨by subst hR; show cells + 2 + 1 ≤ 601024; omega, by subst hR; show slots + 12 + 7 ≤ 7293034; omega⟩) (fun b9 V2 H locs h hS => ?_)
  refine W.widen (k := cells + 300) (n := slots + 2000) (by omega) (by omega) ?_
  refine lv_istore (lv' := [(6, .int b9), (5, .int k), (4, .int i), (3, .ref (ad 34 0 0)), (2, .ref (ad 15 0 0)), (1, .ref (ad 0 0 0)), (0, .ref b)]) hC.1 hC.2.1 dL_law_919 hl (by decide) rfl (fun ls hl => ?_)
  refine lv_aload_n hC.1 hC.2.1 dL_law_921 rfl (lv_at hl 4 rfl) ?_
  refine g_calli0 hS (g_runV (n := 0) (rest := []) (As := []) (C := RX10) (T := TX10) (N := 13) hC hS hk15 rfl rfl (c_X10_thrown l G ks ad V2 _ h _) (gI wq_1094 wq_1095 wq_1096 wq_46 wq_1097) rfl ⟨⟨by decide +kernel, by decide +kernel, by decide +kernel⟩, rfl, rfl, by subst hR; exact Nat.le_of_ble_eq_true rfl, by subst hR; exact Nat.le_of_ble_eq_true rfl⟩ rfl hl rfl (Nat.le_of_ble_eq_true rfl) dL_law_922 ⟨by subst hR; exact hcs.1, by subst hR; exact hcs.2⟩) (fun t9 V3 H locs h hS => ?_)
  obtain ⟨ht, hb9, hk34, h⟩ := h
  refine lv_iload hC.1 hC.2.1 dL_law_925 (lv_at hl 1 rfl) ?_
  refine lv_icmp_eq (tgt := 932) hC.1 hC.2.1 dL_law_927 (by decide) (fun _ => ?_) (fun z => absurd ht z)
  refine lv_iload hC.1 hC.2.1 dL_law_932 (lv_at hl 1 rfl) ?_
  refine lv_if_ne (tgt := 949) hC.1 hC.2.1 dL_law_934 (by decide) (fun _ => ?_) (fun hz => ?_)
  · refine lv_goto (tgt := 1447) hC.1 hC.2.1 dL_law_949 (by decide) ?_
    exact kk ks ad V3 H locs ls h hS (lv_sub hl [2, 3, 4, 5, 6] rfl)
  · refine lv_aload_n hC.1 hC.2.1 dL_law_937 rfl (lv_at hl 3 rfl) ?_
    refine lv_iconst (v := 0) hC.1 hC.2.1 dL_law_938 (by decide) ?_
    refine g_outld hC hS hk34 dL_law_939 ?_
    refine lv_iload hC.1 hC.2.1 dL_law_940 (lv_at hl 0 rfl) ?_
    refine lv_i2l hC.1 hC.2.1 dL_law_942 rfl ?_
    refine W.lcmp hC.1 hC.2.1 dL_law_943 ?_
    rw [hb9 hz, lg_same]
    refine lv_if_eq (tgt := 949) hC.1 hC.2.1 dL_law_944 (by decide) (fun _ => ?_) (fun z => absurd rfl z)
    refine lv_goto (tgt := 1447) hC.1 hC.2.1 dL_law_949 (by decide) ?_
    exact kk ks ad V3 H locs ls h hS (lv_sub hl [2, 3, 4, 5, 6] rfl)
def sp_reader (I : List KY → VS → Prop) (ks : List KY) (a1 : Int32) (a2 : Int32) (V : VS) : Prop := wp_L_reader ks a1 a2 V (fun k V1 => (15, 0, 0) ∈ ks ∧ wp_X10_reader ks a1 a2 V1 (fun b V2 => wp_X10_thrown ks V2 (fun t V3 => t = k ∧ (k = 0 → V3 34 0 0 0 0 = b) ∧ (34, 0, 0) ∈ ks ∧ I ks V3)))
set_option maxHeartbeats 4000000 in
set_option maxRecDepth 100000 in
theorem k_reader {p : Program} {l : Launch} {e : Env} {R : Room} {s : State} {m : MethodId} {args : Array Value} {below : List Frame} {meth : Method} {c : Code} {H : Heap} {locs : List Loc} {cells slots : Nat} {Q : State → Prop} {ls : Array Slot} {G : GG} {ks : List KY} {ad : AD} {V : VS} {A : Nat → Prop} {b L : Nat} {xs : Nat → Int32} {i : Int32} {I : List KY → VS → Prop} (hlf : l.stackTraces = false) (hR : R = room_1) (hC : CX p s m args c cL_law 9 RL G A) (hS : ST G ks ad V A s.heap H locs) (hX : va_X b L xs s s.heap) (hbl : b < s.heap.size) (hbA : ¬ A b) (hin : ∀ j : Int32, j = 1 ∨ j = 2 ∨ j = 3 ∨ j = 4 → vp_in (i + j) L) (hl : lv_has ls 9 (LV ad i b)) (hcs : cells + 300 ≤ 601024 ∧ slots + 2000 ≤ 7293034) (h : sp_reader I ks (xs (i + 1).toNatClampNeg) (xs (i + 2).toNatClampNeg) V) (kk : ∀ (ks2 : List KY) (ad2 : AD) (V2 : VS) (H1 : Heap) (locs1 : List Loc) (ls1 : Array Slot), I ks2 V2 → ST G ks2 ad2 V2 A s.heap H1 locs1 → lv_has ls1 9 (LV ad2 i b) → W p l e R s m args below meth c H1 locs1 (cells + 300) (slots + 2000) Q (F0 m 1447 ls1 [])) : W p l e R s m args below meth c H locs cells slots Q (F0 m 952 ls []) := by
  unfold sp_reader at h
  refine lv_aload_n hC.1 hC.2.1 dL_law_952 rfl (lv_at hl 3 rfl) ?_
  refine lv_aload_n hC.1 hC.2.1 dL_law_953 rfl (lv_at hl 4 rfl) ?_
  refine lv_iload hC.1 hC.2.1 dL_law_954 (lv_at hl 0 rfl) ?_
  refine lv_iconst (v := 1) hC.1 hC.2.1 dL_law_956 (by decide) ?_
  refine lv_iadd hC.1 hC.2.1 dL_law_957 ?_
  refine va_sld hC.1 hC.2.1 hX hbl hbA hS.2.1 (hin 1 (by decide)) dL_law_958 ?_
  refine lv_aload_n hC.1 hC.2.1 dL_law_959 rfl (lv_at hl 4 rfl) ?_
  refine lv_iload hC.1 hC.2.1 dL_law_960 (lv_at hl 0 rfl) ?_
  refine lv_iconst (v := 2) hC.1 hC.2.1 dL_law_962 (by decide) ?_
  refine lv_iadd hC.1 hC.2.1 dL_law_963 ?_
  refine va_sld hC.1 hC.2.1 hX hbl hbA hS.2.1 (hin 2 (by decide)) dL_law_964 ?_
  refine lv_aload_n hC.1 hC.2.1 dL_law_965 rfl (lv_at hl 1 rfl) ?_
  refine g_calli hS (g_runW (n := 4) (rest := []) (As := [.ref (ad 0 0 0), .int (xs (i + 1).toNatClampNeg), .int (xs (i + 2).toNatClampNeg), .ref (ad 34 0 0)]) hC hS (c_L_reader l hlf G ks ad (xs (i + 1).toNatClampNeg) (xs (i + 2).toNatClampNeg) V _ h _) (gIW wq_801 wq_802 wq_38 wq_803) ⟨⟨by decide +kernel, by decide +kernel, by decide +kernel⟩, rfl, rfl, by subst hR; exact Nat.le_of_ble_eq_true rfl, by subst hR; exact Nat.le_of_ble_eq_true rfl⟩ rfl hl rfl (Nat.le_of_ble_eq_true rfl) dL_law_966 ⟨by subst hR; show cells + 2 ≤ 601024; omega, by subst hR; show slots + 12 ≤ 7293034; omega⟩) (fun k V1 H locs h hS => ?_)
  obtain ⟨hk15, h⟩ := h
  refine lv_istore (lv' := [(5, .int k), (4, .int i), (3, .ref (ad 34 0 0)), (2, .ref (ad 15 0 0)), (1, .ref (ad 0 0 0)), (0, .ref b)]) hC.1 hC.2.1 dL_law_969 hl (by decide) rfl (fun ls hl => ?_)
  refine lv_aload_n hC.1 hC.2.1 dL_law_971 rfl (lv_at hl 3 rfl) ?_
  refine lv_aload_n hC.1 hC.2.1 dL_law_972 rfl (lv_at hl 5 rfl) ?_
  refine lv_iload hC.1 hC.2.1 dL_law_973 (lv_at hl 1 rfl) ?_
  refine lv_iconst (v := 1) hC.1 hC.2.1 dL_law_975 (by decide) ?_
  refine lv_iadd hC.1 hC.2.1 dL_law_976 ?_
  refine va_sld hC.1 hC.2.1 hX hbl hbA hS.2.1 (hin 1 (by decide)) dL_law_977 ?_
  refine lv_aload_n hC.1 hC.2.1 dL_law_978 rfl (lv_at hl 5 rfl) ?_
  refine lv_iload hC.1 hC.2.1 dL_law_979 (lv_at hl 1 rfl) ?_
  refine lv_iconst (v := 2) hC.1 hC.2.1 dL_law_981 (by decide) ?_
  refine lv_iadd hC.1 hC.2.1 dL_law_982 ?_
  refine va_sld hC.1 hC.2.1 hX hbl hbA hS.2.1 (hin 2 (by decide)) dL_law_983 ?_
  refine g_calli hS (g_runV (n := 2) (rest := []) (As := [.int (xs (i + 1).toNatClampNeg), .int (xs (i + 2).toNatClampNeg)]) (C := RX10) (T := TX10) (N := 13) hC hS hk15 rfl rfl (c_X10_reader l G ks ad (xs (i + 1).toNatClampNeg) (xs (i + 2).toNatClampNeg) V1 _ h _) (gI wq_1202 wq_1203 wq_1204 wq_46 wq_1205) rfl ⟨⟨by decide +kernel, by decide +kernel, by decide +kernel⟩, rfl, rfl, by subst hR; exact Nat.le_of_ble_eq_true rfl, by subst hR; exact Nat.le_of_ble_eq_true rfl⟩ rfl hl rfl (Nat.le_of_ble_eq_true rfl) dL_law_984 ⟨by subst hR; show cells + 2 + 0 ≤ 601024; omega, by subst hR; show slots + 12 + 0 ≤ 7293034; omega⟩) (fun b9 V2 H locs h hS => ?_)
  refine W.widen (k := cells + 300) (n := slots + 2000) (by omega) (by omega) ?_
  refine lv_istore (lv' := [(6, .int b9), (5, .int k), (4, .int i), (3, .ref (ad 34 0 0)), (2, .ref (ad 15 0 0)), (1, .ref (ad 0 0 0)), (0, .ref b)]) hC.1 hC.2.1 dL_law_987 hl (by decide) rfl (fun ls hl => ?_)
  refine lv_aload_n hC.1 hC.2.1 dL_law_989 rfl (lv_at hl 4 rfl) ?_
  refine g_calli0 hS (g_runV (n := 0) (rest := []) (As := []) (C := RX10) (T := TX10) (N := 13) hC hS hk15 rfl rfl (c_X10_thrown l G ks ad V2 _ h _) (gI wq_1094 wq_1095 wq_1096 wq_46 wq_1097) rfl ⟨⟨by decide +kernel, by decide +kernel, by decide +kernel⟩, rfl, rfl, by subst hR; exact Nat.le_of_ble_eq_true rfl, by subst hR; exact Nat.le_of_ble_eq_true rfl⟩ rfl hl rfl (Nat.le_of_ble_eq_true rfl) dL_law_990 ⟨by subst hR; exact hcs.1, by subst hR; exact hcs.2⟩) (fun t9 V3 H locs h hS => ?_)
  obtain ⟨ht, hb9, hk34, h⟩ := h
  refine lv_iload hC.1 hC.2.1 dL_law_993 (lv_at hl 1 rfl) ?_
  refine lv_icmp_eq (tgt := 1000) hC.1 hC.2.1 dL_law_995 (by decide) (fun _ => ?_) (fun z => absurd ht z)
  refine lv_iload hC.1 hC.2.1 dL_law_1000 (lv_at hl 1 rfl) ?_
  refine lv_if_ne (tgt := 1017) hC.1 hC.2.1 dL_law_1002 (by decide) (fun _ => ?_) (fun hz => ?_)
  · refine lv_goto (tgt := 1447) hC.1 hC.2.1 dL_law_1017 (by decide) ?_
    exact kk ks ad V3 H locs ls h hS (lv_sub hl [2, 3, 4, 5, 6] rfl)
  · refine lv_aload_n hC.1 hC.2.1 dL_law_1005 rfl (lv_at hl 3 rfl) ?_
    refine lv_iconst (v := 0) hC.1 hC.2.1 dL_law_1006 (by decide) ?_
    refine g_outld hC hS hk34 dL_law_1007 ?_
    refine lv_iload hC.1 hC.2.1 dL_law_1008 (lv_at hl 0 rfl) ?_
    refine lv_i2l hC.1 hC.2.1 dL_law_1010 rfl ?_
    refine W.lcmp hC.1 hC.2.1 dL_law_1011 ?_
    rw [hb9 hz, lg_same]
    refine lv_if_eq (tgt := 1017) hC.1 hC.2.1 dL_law_1012 (by decide) (fun _ => ?_) (fun z => absurd rfl z)
    refine lv_goto (tgt := 1447) hC.1 hC.2.1 dL_law_1017 (by decide) ?_
    exact kk ks ad V3 H locs ls h hS (lv_sub hl [2, 3, 4, 5, 6] rfl)
def sp_pay (I : List KY → VS → Prop) (ks : List KY) (a1 : Int32) (a2 : Int32) (V : VS) : Prop := wp_L_pay ks a1 a2 V (fun k V1 => (15, 0, 0) ∈ ks ∧ wp_X10_pay ks a1 a2 V1 (fun b V2 => wp_X10_thrown ks V2 (fun t V3 => t = k ∧ (k = 0 → V3 34 0 0 0 0 = b) ∧ (34, 0, 0) ∈ ks ∧ I ks V3)))
set_option maxHeartbeats 4000000 in
set_option maxRecDepth 100000 in
theorem k_pay {p : Program} {l : Launch} {e : Env} {R : Room} {s : State} {m : MethodId} {args : Array Value} {below : List Frame} {meth : Method} {c : Code} {H : Heap} {locs : List Loc} {cells slots : Nat} {Q : State → Prop} {ls : Array Slot} {G : GG} {ks : List KY} {ad : AD} {V : VS} {A : Nat → Prop} {b L : Nat} {xs : Nat → Int32} {i : Int32} {I : List KY → VS → Prop} (hlf : l.stackTraces = false) (hR : R = room_1) (hC : CX p s m args c cL_law 9 RL G A) (hS : ST G ks ad V A s.heap H locs) (hX : va_X b L xs s s.heap) (hbl : b < s.heap.size) (hbA : ¬ A b) (hin : ∀ j : Int32, j = 1 ∨ j = 2 ∨ j = 3 ∨ j = 4 → vp_in (i + j) L) (hl : lv_has ls 9 (LV ad i b)) (hcs : cells + 300 ≤ 601024 ∧ slots + 2000 ≤ 7293034) (h : sp_pay I ks (xs (i + 1).toNatClampNeg) (xs (i + 2).toNatClampNeg) V) (kk : ∀ (ks2 : List KY) (ad2 : AD) (V2 : VS) (H1 : Heap) (locs1 : List Loc) (ls1 : Array Slot), I ks2 V2 → ST G ks2 ad2 V2 A s.heap H1 locs1 → lv_has ls1 9 (LV ad2 i b) → W p l e R s m args below meth c H1 locs1 (cells + 300) (slots + 2000) Q (F0 m 1447 ls1 [])) : W p l e R s m args below meth c H locs cells slots Q (F0 m 1020 ls []) := by
  unfold sp_pay at h
  refine lv_aload_n hC.1 hC.2.1 dL_law_1020 rfl (lv_at hl 3 rfl) ?_
  refine lv_aload_n hC.1 hC.2.1 dL_law_1021 rfl (lv_at hl 4 rfl) ?_
  refine lv_iload hC.1 hC.2.1 dL_law_1022 (lv_at hl 0 rfl) ?_
  refine lv_iconst (v := 1) hC.1 hC.2.1 dL_law_1024 (by decide) ?_
  refine lv_iadd hC.1 hC.2.1 dL_law_1025 ?_
  refine va_sld hC.1 hC.2.1 hX hbl hbA hS.2.1 (hin 1 (by decide)) dL_law_1026 ?_
  refine lv_aload_n hC.1 hC.2.1 dL_law_1027 rfl (lv_at hl 4 rfl) ?_
  refine lv_iload hC.1 hC.2.1 dL_law_1028 (lv_at hl 0 rfl) ?_
  refine lv_iconst (v := 2) hC.1 hC.2.1 dL_law_1030 (by decide) ?_
  refine lv_iadd hC.1 hC.2.1 dL_law_1031 ?_
  refine va_sld hC.1 hC.2.1 hX hbl hbA hS.2.1 (hin 2 (by decide)) dL_law_1032 ?_
  refine lv_aload_n hC.1 hC.2.1 dL_law_1033 rfl (lv_at hl 1 rfl) ?_
  refine g_calli hS (g_runW (n := 4) (rest := []) (As := [.ref (ad 0 0 0), .int (xs (i + 1).toNatClampNeg), .int (xs (i + 2).toNatClampNeg), .ref (ad 34 0 0)]) hC hS (c_L_pay l hlf G ks ad (xs (i + 1).toNatClampNeg) (xs (i + 2).toNatClampNeg) V _ h _) (gIW wq_809 wq_810 wq_38 wq_811) ⟨⟨by decide +kernel, by decide +kernel, by decide +kernel⟩, rfl, rfl, by subst hR; exact Nat.le_of_ble_eq_true rfl, by subst hR; exact Nat.le_of_ble_eq_true rfl⟩ rfl hl rfl (Nat.le_of_ble_eq_true rfl) dL_law_1034 ⟨by subst hR; show cells + 2 ≤ 601024; omega, by subst hR; show slots + 12 ≤ 7293034; omega⟩) (fun k V1 H locs h hS => ?_)
  obtain ⟨hk15, h⟩ := h
  refine lv_istore (lv' := [(5, .int k), (4, .int i), (3, .ref (ad 34 0 0)), (2, .ref (ad 15 0 0)), (1, .ref (ad 0 0 0)), (0, .ref b)]) hC.1 hC.2.1 dL_law_1037 hl (by decide) rfl (fun ls hl => ?_)
  refine lv_aload_n hC.1 hC.2.1 dL_law_1039 rfl (lv_at hl 3 rfl) ?_
  refine lv_aload_n hC.1 hC.2.1 dL_law_1040 rfl (lv_at hl 5 rfl) ?_
  refine lv_iload hC.1 hC.2.1 dL_law_1041 (lv_at hl 1 rfl) ?_
  refine lv_iconst (v := 1) hC.1 hC.2.1 dL_law_1043 (by decide) ?_
  refine lv_iadd hC.1 hC.2.1 dL_law_1044 ?_
  refine va_sld hC.1 hC.2.1 hX hbl hbA hS.2.1 (hin 1 (by decide)) dL_law_1045 ?_
  refine lv_aload_n hC.1 hC.2.1 dL_law_1046 rfl (lv_at hl 5 rfl) ?_
  refine lv_iload hC.1 hC.2.1 dL_law_1047 (lv_at hl 1 rfl) ?_
  refine lv_iconst (v := 2) hC.1 hC.2.1 dL_law_1049 (by decide) ?_
  refine lv_iadd hC.1 hC.2.1 dL_law_1050 ?_
  refine va_sld hC.1 hC.2.1 hX hbl hbA hS.2.1 (hin 2 (by decide)) dL_law_1051 ?_
  refine g_calli hS (g_runV (n := 2) (rest := []) (As := [.int (xs (i + 1).toNatClampNeg), .int (xs (i + 2).toNatClampNeg)]) (C := RX10) (T := TX10) (N := 13) hC hS hk15 rfl rfl (c_X10_pay l G ks ad (xs (i + 1).toNatClampNeg) (xs (i + 2).toNatClampNeg) V1 _ h _) (gI wq_1215 wq_1216 wq_1217 wq_46 wq_1218) rfl ⟨⟨by decide +kernel, by decide +kernel, by decide +kernel⟩, rfl, rfl, by subst hR; exact Nat.le_of_ble_eq_true rfl, by subst hR; exact Nat.le_of_ble_eq_true rfl⟩ rfl hl rfl (Nat.le_of_ble_eq_true rfl) dL_law_1052 ⟨by subst hR; show cells + 2 + 0 ≤ 601024; omega, by subst hR; show slots + 12 + 0 ≤ 7293034; omega⟩) (fun b9 V2 H locs h hS => ?_)
  refine W.widen (k := cells + 300) (n := slots + 2000) (by omega) (by omega) ?_
  refine lv_istore (lv' := [(6, .int b9), (5, .int k), (4, .int i), (3, .ref (ad 34 0 0)), (2, .ref (ad 15 0 0)), (1, .ref (ad 0 0 0)), (0, .ref b)]) hC.1 hC.2.1 dL_law_1055 hl (by decide) rfl (fun ls hl => ?_)
  refine lv_aload_n hC.1 hC.2.1 dL_law_1057 rfl (lv_at hl 4 rfl) ?_
  refine g_calli0 hS (g_runV (n := 0) (rest := []) (As := []) (C := RX10) (T := TX10) (N := 13) hC hS hk15 rfl rfl (c_X10_thrown l G ks ad V2 _ h _) (gI wq_1094 wq_1095 wq_1096 wq_46 wq_1097) rfl ⟨⟨by decide +kernel, by decide +kernel, by decide +kernel⟩, rfl, rfl, by subst hR; exact Nat.le_of_ble_eq_true rfl, by subst hR; exact Nat.le_of_ble_eq_true rfl⟩ rfl hl rfl (Nat.le_of_ble_eq_true rfl) dL_law_1058 ⟨by subst hR; exact hcs.1, by subst hR; exact hcs.2⟩) (fun t9 V3 H locs h hS => ?_)
  obtain ⟨ht, hb9, hk34, h⟩ := h
  refine lv_iload hC.1 hC.2.1 dL_law_1061 (lv_at hl 1 rfl) ?_
  refine lv_icmp_eq (tgt := 1068) hC.1 hC.2.1 dL_law_1063 (by decide) (fun _ => ?_) (fun z => absurd ht z)
  refine lv_iload hC.1 hC.2.1 dL_law_1068 (lv_at hl 1 rfl) ?_
  refine lv_if_ne (tgt := 1085) hC.1 hC.2.1 dL_law_1070 (by decide) (fun _ => ?_) (fun hz => ?_)
  · refine lv_goto (tgt := 1447) hC.1 hC.2.1 dL_law_1085 (by decide) ?_
    exact kk ks ad V3 H locs ls h hS (lv_sub hl [2, 3, 4, 5, 6] rfl)
  · refine lv_aload_n hC.1 hC.2.1 dL_law_1073 rfl (lv_at hl 3 rfl) ?_
    refine lv_iconst (v := 0) hC.1 hC.2.1 dL_law_1074 (by decide) ?_
    refine g_outld hC hS hk34 dL_law_1075 ?_
    refine lv_iload hC.1 hC.2.1 dL_law_1076 (lv_at hl 0 rfl) ?_
    refine lv_i2l hC.1 hC.2.1 dL_law_1078 rfl ?_
    refine W.lcmp hC.1 hC.2.1 dL_law_1079 ?_
    rw [hb9 hz, lg_same]
    refine lv_if_eq (tgt := 1085) hC.1 hC.2.1 dL_law_1080 (by decide) (fun _ => ?_) (fun z => absurd rfl z)
    refine lv_goto (tgt := 1447) hC.1 hC.2.1 dL_law_1085 (by decide) ?_
    exact kk ks ad V3 H locs ls h hS (lv_sub hl [2, 3, 4, 5, 6] rfl)
def sp_pass (I : List KY → VS → Prop) (ks : List KY) (a1 : Int32) (V : VS) : Prop := wp_L_pass ks a1 V (fun k V1 => (15, 0, 0) ∈ ks ∧ wp_X10_pass_ ks a1 V1 (fun b V2 => wp_X10_thrown ks V2 (fun t V3 => t = k ∧ (k = 0 → V3 34 0 0 0 0 = b) ∧ (34, 0, 0) ∈ ks ∧ I ks V3)))
set_option maxHeartbeats 4000000 in
set_option maxRecDepth 100000 in
theorem k_pass {p : Program} {l : Launch} {e : Env} {R : Room} {s : State} {m : MethodId} {args : Array Value} {below : List Frame} {meth : Method} {c : Code} {H : Heap} {locs : List Loc} {cells slots : Nat} {Q : State → Prop} {ls : Array Slot} {G : GG} {ks : List KY} {ad : AD} {V : VS} {A : Nat → Prop} {b L : Nat} {xs : Nat → Int32} {i : Int32} {I : List KY → VS → Prop} (hlf : l.stackTraces = false) (hR : R = room_1) (hC : CX p s m args c cL_law 9 RL G A) (hS : ST G ks ad V A s.heap H locs) (hX : va_X b L xs s s.heap) (hbl : b < s.heap.size) (hbA : ¬ A b) (hin : ∀ j : Int32, j = 1 ∨ j = 2 ∨ j = 3 ∨ j = 4 → vp_in (i + j) L) (hl : lv_has ls 9 (LV ad i b)) (hcs : cells + 300 ≤ 601024 ∧ slots + 2000 ≤ 7293034) (h : sp_pass I ks (xs (i + 1).toNatClampNeg) V) (kk : ∀ (ks2 : List KY) (ad2 : AD) (V2 : VS) (H1 : Heap) (locs1 : List Loc) (ls1 : Array Slot), I ks2 V2 → ST G ks2 ad2 V2 A s.heap H1 locs1 → lv_has ls1 9 (LV ad2 i b) → W p l e R s m args below meth c H1 locs1 (cells + 300) (slots + 2000) Q (F0 m 1447 ls1 [])) : W p l e R s m args below meth c H locs cells slots Q (F0 m 1088 ls []) := by
  unfold sp_pass at h
  refine lv_aload_n hC.1 hC.2.1 dL_law_1088 rfl (lv_at hl 3 rfl) ?_
  refine lv_aload_n hC.1 hC.2.1 dL_law_1089 rfl (lv_at hl 4 rfl) ?_
  refine lv_iload hC.1 hC.2.1 dL_law_1090 (lv_at hl 0 rfl) ?_
  refine lv_iconst (v := 1) hC.1 hC.2.1 dL_law_1092 (by decide) ?_
  refine lv_iadd hC.1 hC.2.1 dL_law_1093 ?_
  refine va_sld hC.1 hC.2.1 hX hbl hbA hS.2.1 (hin 1 (by decide)) dL_law_1094 ?_
  refine lv_aload_n hC.1 hC.2.1 dL_law_1095 rfl (lv_at hl 1 rfl) ?_
  refine g_calli hS (g_runW (n := 3) (rest := []) (As := [.ref (ad 0 0 0), .int (xs (i + 1).toNatClampNeg), .ref (ad 34 0 0)]) hC hS (c_L_pass l hlf G ks ad (xs (i + 1).toNatClampNeg) V _ h _) (gIW wq_817 wq_818 wq_38 wq_819) ⟨⟨by decide +kernel, by decide +kernel, by decide +kernel⟩, rfl, rfl, by subst hR; exact Nat.le_of_ble_eq_true rfl, by subst hR; exact Nat.le_of_ble_eq_true rfl⟩ rfl hl rfl (Nat.le_of_ble_eq_true rfl) dL_law_1096 ⟨by subst hR; show cells + 1 ≤ 601024; omega, by subst hR; show slots + 6 ≤ 7293034; omega⟩) (fun k V1 H locs h hS => ?_)
  obtain ⟨hk15, h⟩ := h
  refine lv_istore (lv' := [(5, .int k), (4, .int i), (3, .ref (ad 34 0 0)), (2, .ref (ad 15 0 0)), (1, .ref (ad 0 0 0)), (0, .ref b)]) hC.1 hC.2.1 dL_law_1099 hl (by decide) rfl (fun ls hl => ?_)
  refine lv_aload_n hC.1 hC.2.1 dL_law_1101 rfl (lv_at hl 3 rfl) ?_
  refine lv_aload_n hC.1 hC.2.1 dL_law_1102 rfl (lv_at hl 5 rfl) ?_
  refine lv_iload hC.1 hC.2.1 dL_law_1103 (lv_at hl 1 rfl) ?_
  refine lv_iconst (v := 1) hC.1 hC.2.1 dL_law_1105 (by decide) ?_
  refine lv_iadd hC.1 hC.2.1 dL_law_1106 ?_
  refine va_sld hC.1 hC.2.1 hX hbl hbA hS.2.1 (hin 1 (by decide)) dL_law_1107 ?_
  refine g_calli hS (g_runV (n := 1) (rest := []) (As := [.int (xs (i + 1).toNatClampNeg)]) (C := RX10) (T := TX10) (N := 13) hC hS hk15 rfl rfl (c_X10_pass_ l G ks ad (xs (i + 1).toNatClampNeg) V1 _ h _) (gI wq_1219 wq_1220 wq_1221 wq_46 wq_1222) rfl ⟨⟨by decide +kernel, by decide +kernel, by decide +kernel⟩, rfl, rfl, by subst hR; exact Nat.le_of_ble_eq_true rfl, by subst hR; exact Nat.le_of_ble_eq_true rfl⟩ rfl hl rfl (Nat.le_of_ble_eq_true rfl) dL_law_1108 ⟨by subst hR; show cells + 1 + 0 ≤ 601024; omega, by subst hR; show slots + 6 + 0 ≤ 7293034; omega⟩) (fun b9 V2 H locs h hS => ?_)
  refine W.widen (k := cells + 300) (n := slots + 2000) (by omega) (by omega) ?_
  refine lv_istore (lv' := [(6, .int b9), (5, .int k), (4, .int i), (3, .ref (ad 34 0 0)), (2, .ref (ad 15 0 0)), (1, .ref (ad 0 0 0)), (0, .ref b)]) hC.1 hC.2.1 dL_law_1111 hl (by decide) rfl (fun ls hl => ?_)
  refine lv_aload_n hC.1 hC.2.1 dL_law_1113 rfl (lv_at hl 4 rfl) ?_
  refine g_calli0 hS (g_runV (n := 0) (rest := []) (As := []) (C := RX10) (T := TX10) (N := 13) hC hS hk15 rfl rfl (c_X10_thrown l G ks ad V2 _ h _) (gI wq_1094 wq_1095 wq_1096 wq_46 wq_1097) rfl ⟨⟨by decide +kernel, by decide +kernel, by decide +kernel⟩, rfl, rfl, by subst hR; exact Nat.le_of_ble_eq_true rfl, by subst hR; exact Nat.le_of_ble_eq_true rfl⟩ rfl hl rfl (Nat.le_of_ble_eq_true rfl) dL_law_1114 ⟨by subst hR; exact hcs.1, by subst hR; exact hcs.2⟩) (fun t9 V3 H locs h hS => ?_)
  obtain ⟨ht, hb9, hk34, h⟩ := h
  refine lv_iload hC.1 hC.2.1 dL_law_1117 (lv_at hl 1 rfl) ?_
  refine lv_icmp_eq (tgt := 1124) hC.1 hC.2.1 dL_law_1119 (by decide) (fun _ => ?_) (fun z => absurd ht z)
  refine lv_iload hC.1 hC.2.1 dL_law_1124 (lv_at hl 1 rfl) ?_
  refine lv_if_ne (tgt := 1141) hC.1 hC.2.1 dL_law_1126 (by decide) (fun _ => ?_) (fun hz => ?_)
  · refine lv_goto (tgt := 1447) hC.1 hC.2.1 dL_law_1141 (by decide) ?_
    exact kk ks ad V3 H locs ls h hS (lv_sub hl [2, 3, 4, 5, 6] rfl)
  · refine lv_aload_n hC.1 hC.2.1 dL_law_1129 rfl (lv_at hl 3 rfl) ?_
    refine lv_iconst (v := 0) hC.1 hC.2.1 dL_law_1130 (by decide) ?_
    refine g_outld hC hS hk34 dL_law_1131 ?_
    refine lv_iload hC.1 hC.2.1 dL_law_1132 (lv_at hl 0 rfl) ?_
    refine lv_i2l hC.1 hC.2.1 dL_law_1134 rfl ?_
    refine W.lcmp hC.1 hC.2.1 dL_law_1135 ?_
    rw [hb9 hz, lg_same]
    refine lv_if_eq (tgt := 1141) hC.1 hC.2.1 dL_law_1136 (by decide) (fun _ => ?_) (fun z => absurd rfl z)
    refine lv_goto (tgt := 1447) hC.1 hC.2.1 dL_law_1141 (by decide) ?_
    exact kk ks ad V3 H locs ls h hS (lv_sub hl [2, 3, 4, 5, 6] rfl)
def sp_count (I : List KY → VS → Prop) (ks : List KY) (a1 : Int32) (V : VS) : Prop := wp_L_count ks a1 V (fun k V1 => (15, 0, 0) ∈ ks ∧ wp_X10_count ks a1 V1 (fun b V2 => wp_X10_thrown ks V2 (fun t V3 => t = k ∧ (k = 0 → V3 34 0 0 0 0 = b) ∧ (34, 0, 0) ∈ ks ∧ I ks V3)))
set_option maxHeartbeats 4000000 in
set_option maxRecDepth 100000 in
theorem k_count {p : Program} {l : Launch} {e : Env} {R : Room} {s : State} {m : MethodId} {args : Array Value} {below : List Frame} {meth : Method} {c : Code} {H : Heap} {locs : List Loc} {cells slots : Nat} {Q : State → Prop} {ls : Array Slot} {G : GG} {ks : List KY} {ad : AD} {V : VS} {A : Nat → Prop} {b L : Nat} {xs : Nat → Int32} {i : Int32} {I : List KY → VS → Prop} (hlf : l.stackTraces = false) (hR : R = room_1) (hC : CX p s m args c cL_law 9 RL G A) (hS : ST G ks ad V A s.heap H locs) (hX : va_X b L xs s s.heap) (hbl : b < s.heap.size) (hbA : ¬ A b) (hin : ∀ j : Int32, j = 1 ∨ j = 2 ∨ j = 3 ∨ j = 4 → vp_in (i + j) L) (hl : lv_has ls 9 (LV ad i b)) (hcs : cells + 300 ≤ 601024 ∧ slots + 2000 ≤ 7293034) (h : sp_count I ks (xs (i + 1).toNatClampNeg) V) (kk : ∀ (ks2 : List KY) (ad2 : AD) (V2 : VS) (H1 : Heap) (locs1 : List Loc) (ls1 : Array Slot), I ks2 V2 → ST G ks2 ad2 V2 A s.heap H1 locs1 → lv_has ls1 9 (LV ad2 i b) → W p l e R s m args below meth c H1 locs1 (cells + 300) (slots + 2000) Q (F0 m 1447 ls1 [])) : W p l e R s m args below meth c H locs cells slots Q (F0 m 1144 ls []) := by
  unfold sp_count at h
  refine lv_aload_n hC.1 hC.2.1 dL_law_1144 rfl (lv_at hl 3 rfl) ?_
  refine lv_aload_n hC.1 hC.2.1 dL_law_1145 rfl (lv_at hl 4 rfl) ?_
  refine lv_iload hC.1 hC.2.1 dL_law_1146 (lv_at hl 0 rfl) ?_
  refine lv_iconst (v := 1) hC.1 hC.2.1 dL_law_1148 (by decide) ?_
  refine lv_iadd hC.1 hC.2.1 dL_law_1149 ?_
  refine va_sld hC.1 hC.2.1 hX hbl hbA hS.2.1 (hin 1 (by decide)) dL_law_1150 ?_
  refine lv_aload_n hC.1 hC.2.1 dL_law_1151 rfl (lv_at hl 1 rfl) ?_
  refine g_calli hS (g_runW (n := 3) (rest := []) (As := [.ref (ad 0 0 0), .int (xs (i + 1).toNatClampNeg), .ref (ad 34 0 0)]) hC hS (c_L_count l hlf G ks ad (xs (i + 1).toNatClampNeg) V _ h _) (gIW wq_886 wq_887 wq_38 wq_888) ⟨⟨by decide +kernel, by decide +kernel, by decide +kernel⟩, rfl, rfl, by subst hR; exact Nat.le_of_ble_eq_true rfl, by subst hR; exact Nat.le_of_ble_eq_true rfl⟩ rfl hl rfl (Nat.le_of_ble_eq_true rfl) dL_law_1152 ⟨by subst hR; show cells + 1 ≤ 601024; omega, by subst hR; show slots + 6 ≤ 7293034; omega⟩) (fun k V1 H locs h hS => ?_)
  obtain ⟨hk15, h⟩ := h
  refine lv_istore (lv' := [(5, .int k), (4, .int i), (3, .ref (ad 34 0 0)), (2, .ref (ad 15 0 0)), (1, .ref (ad 0 0 0)), (0, .ref b)]) hC.1 hC.2.1 dL_law_1155 hl (by decide) rfl (fun ls hl => ?_)
  refine lv_aload_n hC.1 hC.2.1 dL_law_1157 rfl (lv_at hl 3 rfl) ?_
  refine lv_aload_n hC.1 hC.2.1 dL_law_1158 rfl (lv_at hl 5 rfl) ?_
  refine lv_iload hC.1 hC.2.1 dL_law_1159 (lv_at hl 1 rfl) ?_
  refine lv_iconst (v := 1) hC.1 hC.2.1 dL_law_1161 (by decide) ?_
  refine lv_iadd hC.1 hC.2.1 dL_law_1162 ?_
  refine va_sld hC.1 hC.2.1 hX hbl hbA hS.2.1 (hin 1 (by decide)) dL_law_1163 ?_
  refine g_calli hS (g_runV (n := 1) (rest := []) (As := [.int (xs (i + 1).toNatClampNeg)]) (C := RX10) (T := TX10) (N := 13) hC hS hk15 rfl rfl (c_X10_count l G ks ad (xs (i + 1).toNatClampNeg) V1 _ h _) (gI wq_1251 wq_1252 wq_1253 wq_46 wq_1254) rfl ⟨⟨by decide +kernel, by decide +kernel, by decide +kernel⟩, rfl, rfl, by subst hR; exact Nat.le_of_ble_eq_true rfl, by subst hR; exact Nat.le_of_ble_eq_true rfl⟩ rfl hl rfl (Nat.le_of_ble_eq_true rfl) dL_law_1164 ⟨by subst hR; show cells + 1 + 1 ≤ 601024; omega, by subst hR; show slots + 6 + 10 ≤ 7293034; omega⟩) (fun b9 V2 H locs h hS => ?_)
  refine W.widen (k := cells + 300) (n := slots + 2000) (by omega) (by omega) ?_
  refine lv_istore (lv' := [(6, .int b9), (5, .int k), (4, .int i), (3, .ref (ad 34 0 0)), (2, .ref (ad 15 0 0)), (1, .ref (ad 0 0 0)), (0, .ref b)]) hC.1 hC.2.1 dL_law_1167 hl (by decide) rfl (fun ls hl => ?_)
  refine lv_aload_n hC.1 hC.2.1 dL_law_1169 rfl (lv_at hl 4 rfl) ?_
  refine g_calli0 hS (g_runV (n := 0) (rest := []) (As := []) (C := RX10) (T := TX10) (N := 13) hC hS hk15 rfl rfl (c_X10_thrown l G ks ad V2 _ h _) (gI wq_1094 wq_1095 wq_1096 wq_46 wq_1097) rfl ⟨⟨by decide +kernel, by decide +kernel, by decide +kernel⟩, rfl, rfl, by subst hR; exact Nat.le_of_ble_eq_true rfl, by subst hR; exact Nat.le_of_ble_eq_true rfl⟩ rfl hl rfl (Nat.le_of_ble_eq_true rfl) dL_law_1170 ⟨by subst hR; exact hcs.1, by subst hR; exact hcs.2⟩) (fun t9 V3 H locs h hS => ?_)
  obtain ⟨ht, hb9, hk34, h⟩ := h
  refine lv_iload hC.1 hC.2.1 dL_law_1173 (lv_at hl 1 rfl) ?_
  refine lv_icmp_eq (tgt := 1180) hC.1 hC.2.1 dL_law_1175 (by decide) (fun _ => ?_) (fun z => absurd ht z)
  refine lv_iload hC.1 hC.2.1 dL_law_1180 (lv_at hl 1 rfl) ?_
  refine lv_if_ne (tgt := 1197) hC.1 hC.2.1 dL_law_1182 (by decide) (fun _ => ?_) (fun hz => ?_)
  · refine lv_goto (tgt := 1447) hC.1 hC.2.1 dL_law_1197 (by decide) ?_
    exact kk ks ad V3 H locs ls h hS (lv_sub hl [2, 3, 4, 5, 6] rfl)
  · refine lv_aload_n hC.1 hC.2.1 dL_law_1185 rfl (lv_at hl 3 rfl) ?_
    refine lv_iconst (v := 0) hC.1 hC.2.1 dL_law_1186 (by decide) ?_
    refine g_outld hC hS hk34 dL_law_1187 ?_
    refine lv_iload hC.1 hC.2.1 dL_law_1188 (lv_at hl 0 rfl) ?_
    refine lv_i2l hC.1 hC.2.1 dL_law_1190 rfl ?_
    refine W.lcmp hC.1 hC.2.1 dL_law_1191 ?_
    rw [hb9 hz, lg_same]
    refine lv_if_eq (tgt := 1197) hC.1 hC.2.1 dL_law_1192 (by decide) (fun _ => ?_) (fun z => absurd rfl z)
    refine lv_goto (tgt := 1447) hC.1 hC.2.1 dL_law_1197 (by decide) ?_
    exact kk ks ad V3 H locs ls h hS (lv_sub hl [2, 3, 4, 5, 6] rfl)
def sp_foresee (I : List KY → VS → Prop) (ks : List KY) (a1 : Int32) (a2 : Int32) (V : VS) : Prop := wp_L_foresee ks a1 a2 V (fun k V1 => (15, 0, 0) ∈ ks ∧ wp_X10_foresee ks a1 a2 V1 (fun b V2 => wp_X10_thrown ks V2 (fun t V3 => t = k ∧ (k = 0 → V3 34 0 0 0 0 = b) ∧ (34, 0, 0) ∈ ks ∧ I ks V3)))
set_option maxHeartbeats 4000000 in
set_option maxRecDepth 100000 in
theorem k_foresee {p : Program} {l : Launch} {e : Env} {R : Room} {s : State} {m : MethodId} {args : Array Value} {below : List Frame} {meth : Method} {c : Code} {H : Heap} {locs : List Loc} {cells slots : Nat} {Q : State → Prop} {ls : Array Slot} {G : GG} {ks : List KY} {ad : AD} {V : VS} {A : Nat → Prop} {b L : Nat} {xs : Nat → Int32} {i : Int32} {I : List KY → VS → Prop} (hlf : l.stackTraces = false) (hR : R = room_1) (hC : CX p s m args c cL_law 9 RL G A) (hS : ST G ks ad V A s.heap H locs) (hX : va_X b L xs s s.heap) (hbl : b < s.heap.size) (hbA : ¬ A b) (hin : ∀ j : Int32, j = 1 ∨ j = 2 ∨ j = 3 ∨ j = 4 → vp_in (i + j) L) (hl : lv_has ls 9 (LV ad i b)) (hcs : cells + 300 ≤ 601024 ∧ slots + 2000 ≤ 7293034) (h : sp_foresee I ks (xs (i + 1).toNatClampNeg) (xs (i + 2).toNatClampNeg) V) (kk : ∀ (ks2 : List KY) (ad2 : AD) (V2 : VS) (H1 : Heap) (locs1 : List Loc) (ls1 : Array Slot), I ks2 V2 → ST G ks2 ad2 V2 A s.heap H1 locs1 → lv_has ls1 9 (LV ad2 i b) → W p l e R s m args below meth c H1 locs1 (cells + 300) (slots + 2000) Q (F0 m 1447 ls1 [])) : W p l e R s m args below meth c H locs cells slots Q (F0 m 1200 ls []) := by
  unfold sp_foresee at h
  refine lv_aload_n hC.1 hC.2.1 dL_law_1200 rfl (lv_at hl 3 rfl) ?_
  refine lv_aload_n hC.1 hC.2.1 dL_law_1201 rfl (lv_at hl 4 rfl) ?_
  refine lv_iload hC.1 hC.2.1 dL_law_1202 (lv_at hl 0 rfl) ?_
  refine lv_iconst (v := 1) hC.1 hC.2.1 dL_law_1204 (by decide) ?_
  refine lv_iadd hC.1 hC.2.1 dL_law_1205 ?_
  refine va_sld hC.1 hC.2.1 hX hbl hbA hS.2.1 (hin 1 (by decide)) dL_law_1206 ?_
  refine lv_aload_n hC.1 hC.2.1 dL_law_1207 rfl (lv_at hl 4 rfl) ?_
  refine lv_iload hC.1 hC.2.1 dL_law_1208 (lv_at hl 0 rfl) ?_
  refine lv_iconst (v := 2) hC.1 hC.2.1 dL_law_1210 (by decide) ?_
  refine lv_iadd hC.1 hC.2.1 dL_law_1211 ?_
  refine va_sld hC.1 hC.2.1 hX hbl hbA hS.2.1 (hin 2 (by decide)) dL_law_1212 ?_
  refine lv_aload_n hC.1 hC.2.1 dL_law_1213 rfl (lv_at hl 1 rfl) ?_
  refine g_calli hS (g_runW (n := 4) (rest := []) (As := [.ref (ad 0 0 0), .int (xs (i + 1).toNatClampNeg), .int (xs (i + 2).toNatClampNeg), .ref (ad 34 0 0)]) hC hS (c_L_foresee l hlf G ks ad (xs (i + 1).toNatClampNeg) (xs (i + 2).toNatClampNeg) V _ h _) (gIW wq_894 wq_895 wq_38 wq_896) ⟨⟨by decide +kernel, by decide +kernel, by decide +kernel⟩, rfl, rfl, by subst hR; exact Nat.le_of_ble_eq_true rfl, by subst hR; exact Nat.le_of_ble_eq_true rfl⟩ rfl hl rfl (Nat.le_of_ble_eq_true rfl) dL_law_1214 ⟨by subst hR; show cells + 2 ≤ 601024; omega, by subst hR; show slots + 12 ≤ 7293034; omega⟩) (fun k V1 H locs h hS => ?_)
  obtain ⟨hk15, h⟩ := h
  refine lv_istore (lv' := [(5, .int k), (4, .int i), (3, .ref (ad 34 0 0)), (2, .ref (ad 15 0 0)), (1, .ref (ad 0 0 0)), (0, .ref b)]) hC.1 hC.2.1 dL_law_1217 hl (by decide) rfl (fun ls hl => ?_)
  refine lv_aload_n hC.1 hC.2.1 dL_law_1219 rfl (lv_at hl 3 rfl) ?_
  refine lv_aload_n hC.1 hC.2.1 dL_law_1220 rfl (lv_at hl 5 rfl) ?_
  refine lv_iload hC.1 hC.2.1 dL_law_1221 (lv_at hl 1 rfl) ?_
  refine lv_iconst (v := 1) hC.1 hC.2.1 dL_law_1223 (by decide) ?_
  refine lv_iadd hC.1 hC.2.1 dL_law_1224 ?_
  refine va_sld hC.1 hC.2.1 hX hbl hbA hS.2.1 (hin 1 (by decide)) dL_law_1225 ?_
  refine lv_aload_n hC.1 hC.2.1 dL_law_1226 rfl (lv_at hl 5 rfl) ?_
  refine lv_iload hC.1 hC.2.1 dL_law_1227 (lv_at hl 1 rfl) ?_
  refine lv_iconst (v := 2) hC.1 hC.2.1 dL_law_1229 (by decide) ?_
  refine lv_iadd hC.1 hC.2.1 dL_law_1230 ?_
  refine va_sld hC.1 hC.2.1 hX hbl hbA hS.2.1 (hin 2 (by decide)) dL_law_1231 ?_
  refine g_calli hS (g_runV (n := 2) (rest := []) (As := [.int (xs (i + 1).toNatClampNeg), .int (xs (i + 2).toNatClampNeg)]) (C := RX10) (T := TX10) (N := 13) hC hS hk15 rfl rfl (c_X10_foresee l G ks ad (xs (i + 1).toNatClampNeg) (xs (i + 2).toNatClampNeg) V1 _ h _) (gI wq_1263 wq_1264 wq_1265 wq_46 wq_1266) rfl ⟨⟨by decide +kernel, by decide +kernel, by decide +kernel⟩, rfl, rfl, by subst hR; exact Nat.le_of_ble_eq_true rfl, by subst hR; exact Nat.le_of_ble_eq_true rfl⟩ rfl hl rfl (Nat.le_of_ble_eq_true rfl) dL_law_1232 ⟨by subst hR; show cells + 2 + 0 ≤ 601024; omega, by subst hR; show slots + 12 + 0 ≤ 7293034; omega⟩) (fun b9 V2 H locs h hS => ?_)
  refine W.widen (k := cells + 300) (n := slots + 2000) (by omega) (by omega) ?_
  refine lv_istore (lv' := [(6, .int b9), (5, .int k), (4, .int i), (3, .ref (ad 34 0 0)), (2, .ref (ad 15 0 0)), (1, .ref (ad 0 0 0)), (0, .ref b)]) hC.1 hC.2.1 dL_law_1235 hl (by decide) rfl (fun ls hl => ?_)
  refine lv_aload_n hC.1 hC.2.1 dL_law_1237 rfl (lv_at hl 4 rfl) ?_
  refine g_calli0 hS (g_runV (n := 0) (rest := []) (As := []) (C := RX10) (T := TX10) (N := 13) hC hS hk15 rfl rfl (c_X10_thrown l G ks ad V2 _ h _) (gI wq_1094 wq_1095 wq_1096 wq_46 wq_1097) rfl ⟨⟨by decide +kernel, by decide +kernel, by decide +kernel⟩, rfl, rfl, by subst hR; exact Nat.le_of_ble_eq_true rfl, by subst hR; exact Nat.le_of_ble_eq_true rfl⟩ rfl hl rfl (Nat.le_of_ble_eq_true rfl) dL_law_1238 ⟨by subst hR; exact hcs.1, by subst hR; exact hcs.2⟩) (fun t9 V3 H locs h hS => ?_)
  obtain ⟨ht, hb9, hk34, h⟩ := h
  refine lv_iload hC.1 hC.2.1 dL_law_1241 (lv_at hl 1 rfl) ?_
  refine lv_icmp_eq (tgt := 1248) hC.1 hC.2.1 dL_law_1243 (by decide) (fun _ => ?_) (fun z => absurd ht z)
  refine lv_iload hC.1 hC.2.1 dL_law_1248 (lv_at hl 1 rfl) ?_
  refine lv_if_ne (tgt := 1265) hC.1 hC.2.1 dL_law_1250 (by decide) (fun _ => ?_) (fun hz => ?_)
  · refine lv_goto (tgt := 1447) hC.1 hC.2.1 dL_law_1265 (by decide) ?_
    exact kk ks ad V3 H locs ls h hS (lv_sub hl [2, 3, 4, 5, 6] rfl)
  · refine lv_aload_n hC.1 hC.2.1 dL_law_1253 rfl (lv_at hl 3 rfl) ?_
    refine lv_iconst (v := 0) hC.1 hC.2.1 dL_law_1254 (by decide) ?_
    refine g_outld hC hS hk34 dL_law_1255 ?_
    refine lv_iload hC.1 hC.2.1 dL_law_1256 (lv_at hl 0 rfl) ?_
    refine lv_i2l hC.1 hC.2.1 dL_law_1258 rfl ?_
    refine W.lcmp hC.1 hC.2.1 dL_law_1259 ?_
    rw [hb9 hz, lg_same]
    refine lv_if_eq (tgt := 1265) hC.1 hC.2.1 dL_law_1260 (by decide) (fun _ => ?_) (fun z => absurd rfl z)
    refine lv_goto (tgt := 1447) hC.1 hC.2.1 dL_law_1265 (by decide) ?_
    exact kk ks ad V3 H locs ls h hS (lv_sub hl [2, 3, 4, 5, 6] rfl)
def sp_gets (I : List KY → VS → Prop) (ks : List KY) (a1 : Int32) (a2 : Int32) (V : VS) : Prop := wp_L_gets ks a1 a2 V (fun k V1 => (15, 0, 0) ∈ ks ∧ wp_X10_gets ks a1 a2 V1 (fun b V2 => wp_X10_thrown ks V2 (fun t V3 => t = k ∧ (k = 0 → V3 34 0 0 0 0 = b) ∧ (34, 0, 0) ∈ ks ∧ I ks V3)))
set_option maxHeartbeats 4000000 in
set_option maxRecDepth 100000 in
theorem k_gets {p : Program} {l : Launch} {e : Env} {R : Room} {s : State} {m : MethodId} {args : Array Value} {below : List Frame} {meth : Method} {c : Code} {H : Heap} {locs : List Loc} {cells slots : Nat} {Q : State → Prop} {ls : Array Slot} {G : GG} {ks : List KY} {ad : AD} {V : VS} {A : Nat → Prop} {b L : Nat} {xs : Nat → Int32} {i : Int32} {I : List KY → VS → Prop} (hlf : l.stackTraces = false) (hR : R = room_1) (hC : CX p s m args c cL_law 9 RL G A) (hS : ST G ks ad V A s.heap H locs) (hX : va_X b L xs s s.heap) (hbl : b < s.heap.size) (hbA : ¬ A b) (hin : ∀ j : Int32, j = 1 ∨ j = 2 ∨ j = 3 ∨ j = 4 → vp_in (i + j) L) (hl : lv_has ls 9 (LV ad i b)) (hcs : cells + 300 ≤ 601024 ∧ slots + 2000 ≤ 7293034) (h : sp_gets I ks (xs (i + 1).toNatClampNeg) (xs (i + 2).toNatClampNeg) V) (kk : ∀ (ks2 : List KY) (ad2 : AD) (V2 : VS) (H1 : Heap) (locs1 : List Loc) (ls1 : Array Slot), I ks2 V2 → ST G ks2 ad2 V2 A s.heap H1 locs1 → lv_has ls1 9 (LV ad2 i b) → W p l e R s m args below meth c H1 locs1 (cells + 300) (slots + 2000) Q (F0 m 1447 ls1 [])) : W p l e R s m args below meth c H locs cells slots Q (F0 m 1268 ls []) := by
  unfold sp_gets at h
  refine lv_aload_n hC.1 hC.2.1 dL_law_1268 rfl (lv_at hl 3 rfl) ?_
  refine lv_aload_n hC.1 hC.2.1 dL_law_1269 rfl (lv_at hl 4 rfl) ?_
  refine lv_iload hC.1 hC.2.1 dL_law_1270 (lv_at hl 0 rfl) ?_
  refine lv_iconst (v := 1) hC.1 hC.2.1 dL_law_1272 (by decide) ?_
  refine lv_iadd hC.1 hC.2.1 dL_law_1273 ?_
  refine va_sld hC.1 hC.2.1 hX hbl hbA hS.2.1 (hin 1 (by decide)) dL_law_1274 ?_
  refine lv_aload_n hC.1 hC.2.1 dL_law_1275 rfl (lv_at hl 4 rfl) ?_
  refine lv_iload hC.1 hC.2.1 dL_law_1276 (lv_at hl 0 rfl) ?_
  refine lv_iconst (v := 2) hC.1 hC.2.1 dL_law_1278 (by decide) ?_
  refine lv_iadd hC.1 hC.2.1 dL_law_1279 ?_
  refine va_sld hC.1 hC.2.1 hX hbl hbA hS.2.1 (hin 2 (by decide)) dL_law_1280 ?_
  refine lv_aload_n hC.1 hC.2.1 dL_law_1281 rfl (lv_at hl 1 rfl) ?_
  refine g_calli hS (g_runW (n := 4) (rest := []) (As := [.ref (ad 0 0 0), .int (xs (i + 1).toNatClampNeg), .int (xs (i + 2).toNatClampNeg), .ref (ad 34 0 0)]) hC hS (c_L_gets l hlf G ks ad (xs (i + 1).toNatClampNeg) (xs (i + 2).toNatClampNeg) V _ h _) (gIW wq_940 wq_941 wq_38 wq_942) ⟨⟨by decide +kernel, by decide +kernel, by decide +kernel⟩, rfl, rfl, by subst hR; exact Nat.le_of_ble_eq_true rfl, by subst hR; exact Nat.le_of_ble_eq_true rfl⟩ rfl hl rfl (Nat.le_of_ble_eq_true rfl) dL_law_1282 ⟨by subst hR; show cells + 2 ≤ 601024; omega, by subst hR; show slots + 12 ≤ 7293034; omega⟩) (fun k V1 H locs h hS => ?_)
  obtain ⟨hk15, h⟩ := h
  refine lv_istore (lv' := [(5, .int k), (4, .int i), (3, .ref (ad 34 0 0)), (2, .ref (ad 15 0 0)), (1, .ref (ad 0 0 0)), (0, .ref b)]) hC.1 hC.2.1 dL_law_1285 hl (by decide) rfl (fun ls hl => ?_)
  refine lv_aload_n hC.1 hC.2.1 dL_law_1287 rfl (lv_at hl 3 rfl) ?_
  refine lv_aload_n hC.1 hC.2.1 dL_law_1288 rfl (lv_at hl 5 rfl) ?_
  refine lv_iload hC.1 hC.2.1 dL_law_1289 (lv_at hl 1 rfl) ?_
  refine lv_iconst (v := 1) hC.1 hC.2.1 dL_law_1291 (by decide) ?_
  refine lv_iadd hC.1 hC.2.1 dL_law_1292 ?_
  refine va_sld hC.1 hC.2.1 hX hbl hbA hS.2.1 (hin 1 (by decide)) dL_law_1293 ?_
  refine lv_aload_n hC.1 hC.2.1 dL_law_1294 rfl (lv_at hl 5 rfl) ?_
  refine lv_iload hC.1 hC.2.1 dL_law_1295 (lv_at hl 1 rfl) ?_
  refine lv_iconst (v := 2) hC.1 hC.2.1 dL_law_1297 (by decide) ?_
  refine lv_iadd hC.1 hC.2.1 dL_law_1298 ?_
  refine va_sld hC.1 hC.2.1 hX hbl hbA hS.2.1 (hin 2 (by decide)) dL_law_1299 ?_
  refine g_calli hS (g_runV (n := 2) (rest := []) (As := [.int (xs (i + 1).toNatClampNeg), .int (xs (i + 2).toNatClampNeg)]) (C := RX10) (T := TX10) (N := 13) hC hS hk15 rfl rfl (c_X10_gets l G ks ad (xs (i + 1).toNatClampNeg) (xs (i + 2).toNatClampNeg) V1 _ h _) (gI wq_1280 wq_1281 wq_1282 wq_46 wq_1283) rfl ⟨⟨by decide +kernel, by decide +kernel, by decide +kernel⟩, rfl, rfl, by subst hR; exact Nat.le_of_ble_eq_true rfl, by subst hR; exact Nat.le_of_ble_eq_true rfl⟩ rfl hl rfl (Nat.le_of_ble_eq_true rfl) dL_law_1300 ⟨by subst hR; show cells + 2 + 0 ≤ 601024; omega, by subst hR; show slots + 12 + 0 ≤ 7293034; omega⟩) (fun b9 V2 H locs h hS => ?_)
  refine W.widen (k := cells + 300) (n := slots + 2000) (by omega) (by omega) ?_
  refine lv_istore (lv' := [(6, .int b9), (5, .int k), (4, .int i), (3, .ref (ad 34 0 0)), (2, .ref (ad 15 0 0)), (1, .ref (ad 0 0 0)), (0, .ref b)]) hC.1 hC.2.1 dL_law_1303 hl (by decide) rfl (fun ls hl => ?_)
  refine lv_aload_n hC.1 hC.2.1 dL_law_1305 rfl (lv_at hl 4 rfl) ?_
  refine g_calli0 hS (g_runV (n := 0) (rest := []) (As := []) (C := RX10) (T := TX10) (N := 13) hC hS hk15 rfl rfl (c_X10_thrown l G ks ad V2 _ h _) (gI wq_1094 wq_1095 wq_1096 wq_46 wq_1097) rfl ⟨⟨by decide +kernel, by decide +kernel, by decide +kernel⟩, rfl, rfl, by subst hR; exact Nat.le_of_ble_eq_true rfl, by subst hR; exact Nat.le_of_ble_eq_true rfl⟩ rfl hl rfl (Nat.le_of_ble_eq_true rfl) dL_law_1306 ⟨by subst hR; exact hcs.1, by subst hR; exact hcs.2⟩) (fun t9 V3 H locs h hS => ?_)
  obtain ⟨ht, hb9, hk34, h⟩ := h
  refine lv_iload hC.1 hC.2.1 dL_law_1309 (lv_at hl 1 rfl) ?_
  refine lv_icmp_eq (tgt := 1316) hC.1 hC.2.1 dL_law_1311 (by decide) (fun _ => ?_) (fun z => absurd ht z)
  refine lv_iload hC.1 hC.2.1 dL_law_1316 (lv_at hl 1 rfl) ?_
  refine lv_if_ne (tgt := 1333) hC.1 hC.2.1 dL_law_1318 (by decide) (fun _ => ?_) (fun hz => ?_)
  · refine lv_goto (tgt := 1447) hC.1 hC.2.1 dL_law_1333 (by decide) ?_
    exact kk ks ad V3 H locs ls h hS (lv_sub hl [2, 3, 4, 5, 6] rfl)
  · refine lv_aload_n hC.1 hC.2.1 dL_law_1321 rfl (lv_at hl 3 rfl) ?_
    refine lv_iconst (v := 0) hC.1 hC.2.1 dL_law_1322 (by decide) ?_
    refine g_outld hC hS hk34 dL_law_1323 ?_
    refine lv_iload hC.1 hC.2.1 dL_law_1324 (lv_at hl 0 rfl) ?_
    refine lv_i2l hC.1 hC.2.1 dL_law_1326 rfl ?_
    refine W.lcmp hC.1 hC.2.1 dL_law_1327 ?_
    rw [hb9 hz, lg_same]
    refine lv_if_eq (tgt := 1333) hC.1 hC.2.1 dL_law_1328 (by decide) (fun _ => ?_) (fun z => absurd rfl z)
    refine lv_goto (tgt := 1447) hC.1 hC.2.1 dL_law_1333 (by decide) ?_
    exact kk ks ad V3 H locs ls h hS (lv_sub hl [2, 3, 4, 5, 6] rfl)
def sp_advise (I : List KY → VS → Prop) (ks : List KY) (a1 : Int32) (V : VS) : Prop := wp_L_advise ks a1 V (fun k V1 => (15, 0, 0) ∈ ks ∧ wp_X10_advise ks a1 V1 (fun b V2 => wp_X10_thrown ks V2 (fun t V3 => t = k ∧ (k = 0 → V3 34 0 0 0 0 = b) ∧ (34, 0, 0) ∈ ks ∧ I ks V3)))
set_option maxHeartbeats 4000000 in
set_option maxRecDepth 100000 in
theorem k_advise {p : Program} {l : Launch} {e : Env} {R : Room} {s : State} {m : MethodId} {args : Array Value} {below : List Frame} {meth : Method} {c : Code} {H : Heap} {locs : List Loc} {cells slots : Nat} {Q : State → Prop} {ls : Array Slot} {G : GG} {ks : List KY} {ad : AD} {V : VS} {A : Nat → Prop} {b L : Nat} {xs : Nat → Int32} {i : Int32} {I : List KY → VS → Prop} (hlf : l.stackTraces = false) (hR : R = room_1) (hC : CX p s m args c cL_law 9 RL G A) (hS : ST G ks ad V A s.heap H locs) (hX : va_X b L xs s s.heap) (hbl : b < s.heap.size) (hbA : ¬ A b) (hin : ∀ j : Int32, j = 1 ∨ j = 2 ∨ j = 3 ∨ j = 4 → vp_in (i + j) L) (hl : lv_has ls 9 (LV ad i b)) (hcs : cells + 300 ≤ 601024 ∧ slots + 2000 ≤ 7293034) (h : sp_advise I ks (xs (i + 1).toNatClampNeg) V) (kk : ∀ (ks2 : List KY) (ad2 : AD) (V2 : VS) (H1 : Heap) (locs1 : List Loc) (ls1 : Array Slot), I ks2 V2 → ST G ks2 ad2 V2 A s.heap H1 locs1 → lv_has ls1 9 (LV ad2 i b) → W p l e R s m args below meth c H1 locs1 (cells + 300) (slots + 2000) Q (F0 m 1447 ls1 [])) : W p l e R s m args below meth c H locs cells slots Q (F0 m 1336 ls []) := by
  unfold sp_advise at h
  refine lv_aload_n hC.1 hC.2.1 dL_law_1336 rfl (lv_at hl 3 rfl) ?_
  refine lv_aload_n hC.1 hC.2.1 dL_law_1337 rfl (lv_at hl 4 rfl) ?_
  refine lv_iload hC.1 hC.2.1 dL_law_1338 (lv_at hl 0 rfl) ?_
  refine lv_iconst (v := 1) hC.1 hC.2.1 dL_law_1340 (by decide) ?_
  refine lv_iadd hC.1 hC.2.1 dL_law_1341 ?_
  refine va_sld hC.1 hC.2.1 hX hbl hbA hS.2.1 (hin 1 (by decide)) dL_law_1342 ?_
  refine lv_aload_n hC.1 hC.2.1 dL_law_1343 rfl (lv_at hl 1 rfl) ?_
  refine g_calli hS (g_runW (n := 3) (rest := []) (As := [.ref (ad 0 0 0), .int (xs (i + 1).toNatClampNeg), .ref (ad 34 0 0)]) hC hS (c_L_advise l hlf G ks ad (xs (i + 1).toNatClampNeg) V _ h _) (gIW wq_951 wq_952 wq_38 wq_953) ⟨⟨by decide +kernel, by decide +kernel, by decide +kernel⟩, rfl, rfl, by subst hR; exact Nat.le_of_ble_eq_true rfl, by subst hR; exact Nat.le_of_ble_eq_true rfl⟩ rfl hl rfl (Nat.le_of_ble_eq_true rfl) dL_law_1344 ⟨by subst hR; show cells + 2 ≤ 601024; omega, by subst hR; show slots + 12 ≤ 7293034; omega⟩) (fun k V1 H locs h hS => ?_)
  obtain ⟨hk15, h⟩ := h
  refine lv_istore (lv' := [(5, .int k), (4, .int i), (3, .ref (ad 34 0 0)), (2, .ref (ad 15 0 0)), (1, .ref (ad 0 0 0)), (0, .ref b)]) hC.1 hC.2.1 dL_law_1347 hl (by decide) rfl (fun ls hl => ?_)
  refine lv_aload_n hC.1 hC.2.1 dL_law_1349 rfl (lv_at hl 3 rfl) ?_
  refine lv_aload_n hC.1 hC.2.1 dL_law_1350 rfl (lv_at hl 5 rfl) ?_
  refine lv_iload hC.1 hC.2.1 dL_law_1351 (lv_at hl 1 rfl) ?_
  refine lv_iconst (v := 1) hC.1 hC.2.1 dL_law_1353 (by decide) ?_
  refine lv_iadd hC.1 hC.2.1 dL_law_1354 ?_
  refine va_sld hC.1 hC.2.1 hX hbl hbA hS.2.1 (hin 1 (by decide)) dL_law_1355 ?_
  refine g_calli hS (g_runV (n := 1) (rest := []) (As := [.int (xs (i + 1).toNatClampNeg)]) (C := RX10) (T := TX10) (N := 13) hC hS hk15 rfl rfl (c_X10_advise l G ks ad (xs (i + 1).toNatClampNeg) V1 _ h _) (gI wq_1284 wq_1285 wq_1286 wq_46 wq_1287) rfl ⟨⟨by decide +kernel, by decide +kernel, by decide +kernel⟩, rfl, rfl, by subst hR; exact Nat.le_of_ble_eq_true rfl, by subst hR; exact Nat.le_of_ble_eq_true rfl⟩ rfl hl rfl (Nat.le_of_ble_eq_true rfl) dL_law_1356 ⟨by subst hR; show cells + 2 + 0 ≤ 601024; omega, by subst hR; show slots + 12 + 0 ≤ 7293034; omega⟩) (fun b9 V2 H locs h hS => ?_)
  refine W.widen (k := cells + 300) (n := slots + 2000) (by omega) (by omega) ?_
  refine lv_istore (lv' := [(6, .int b9), (5, .int k), (4, .int i), (3, .ref (ad 34 0 0)), (2, .ref (ad 15 0 0)), (1, .ref (ad 0 0 0)), (0, .ref b)]) hC.1 hC.2.1 dL_law_1359 hl (by decide) rfl (fun ls hl => ?_)
  refine lv_aload_n hC.1 hC.2.1 dL_law_1361 rfl (lv_at hl 4 rfl) ?_
  refine g_calli0 hS (g_runV (n := 0) (rest := []) (As := []) (C := RX10) (T := TX10) (N := 13) hC hS hk15 rfl rfl (c_X10_thrown l G ks ad V2 _ h _) (gI wq_1094 wq_1095 wq_1096 wq_46 wq_1097) rfl ⟨⟨by decide +kernel, by decide +kernel, by decide +kernel⟩, rfl, rfl, by subst hR; exact Nat.le_of_ble_eq_true rfl, by subst hR; exact Nat.le_of_ble_eq_true rfl⟩ rfl hl rfl (Nat.le_of_ble_eq_true rfl) dL_law_1362 ⟨by subst hR; exact hcs.1, by subst hR; exact hcs.2⟩) (fun t9 V3 H locs h hS => ?_)
  obtain ⟨ht, hb9, hk34, h⟩ := h
  refine lv_iload hC.1 hC.2.1 dL_law_1365 (lv_at hl 1 rfl) ?_
  refine lv_icmp_eq (tgt := 1372) hC.1 hC.2.1 dL_law_1367 (by decide) (fun _ => ?_) (fun z => absurd ht z)
  refine lv_iload hC.1 hC.2.1 dL_law_1372 (lv_at hl 1 rfl) ?_
  refine lv_if_ne (tgt := 1389) hC.1 hC.2.1 dL_law_1374 (by decide) (fun _ => ?_) (fun hz => ?_)
  · refine lv_goto (tgt := 1447) hC.1 hC.2.1 dL_law_1389 (by decide) ?_
    exact kk ks ad V3 H locs ls h hS (lv_sub hl [2, 3, 4, 5, 6] rfl)
  · refine lv_aload_n hC.1 hC.2.1 dL_law_1377 rfl (lv_at hl 3 rfl) ?_
    refine lv_iconst (v := 0) hC.1 hC.2.1 dL_law_1378 (by decide) ?_
    refine g_outld hC hS hk34 dL_law_1379 ?_
    refine lv_iload hC.1 hC.2.1 dL_law_1380 (lv_at hl 0 rfl) ?_
    refine lv_i2l hC.1 hC.2.1 dL_law_1382 rfl ?_
    refine W.lcmp hC.1 hC.2.1 dL_law_1383 ?_
    rw [hb9 hz, lg_same]
    refine lv_if_eq (tgt := 1389) hC.1 hC.2.1 dL_law_1384 (by decide) (fun _ => ?_) (fun z => absurd rfl z)
    refine lv_goto (tgt := 1447) hC.1 hC.2.1 dL_law_1389 (by decide) ?_
    exact kk ks ad V3 H locs ls h hS (lv_sub hl [2, 3, 4, 5, 6] rfl)
