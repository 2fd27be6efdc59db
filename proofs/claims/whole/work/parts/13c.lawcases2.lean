/-! the law's cases 19 and 20 -/
theorem nan_dec {x : UInt64} (h : isNaN64 x = true) : FP.Core.decode FP.Core.b64 x.toNat = .nan := by
  have h1 := isNaN64_iff.mp h
  rw [show (0x7fffffffffffffff : Nat) = 2 ^ 63 - 1 from rfl, Nat.and_two_pow_sub_one_eq_mod] at h1
  have hE : FP.Core.fieldE FP.Core.b64 x.toNat = 2047 := by
    show x.toNat / 4503599627370496 % 2048 = 2047
    omega
  have hT : ¬ FP.Core.fieldT FP.Core.b64 x.toNat = 0 := by
    show ¬ x.toNat % 4503599627370496 = 0
    omega
  unfold FP.Core.decode
  rw [if_pos (show FP.Core.fieldE FP.Core.b64 x.toNat = FP.Core.b64.exps - 1 from hE), if_neg hT]
theorem dcmp_nan {x : UInt64} (y : UInt64) (h : isNaN64 x = true) : FP.dcmp x y = none := by
  show FP.Core.order (FP.Core.decode FP.Core.b64 x.toNat) (FP.Core.decode FP.Core.b64 y.toNat) = none
  rw [nan_dec h]
  rfl
section LAWD
variable {p : Program} {l : Launch} {e : Env} {R : Room} {s : State} {m : MethodId} {args : Array Value} {below : List Frame} {meth : Method} {c : Code} {H : Heap} {locs : List Loc} {cells slots : Nat} {Q : State → Prop}
variable {cc : ByteArray} {pc nL : Nat} {own : String} {ls : Array Slot} {rest st0 : List Value} {G : GG} {ks : List KY} {ad : AD} {V : VS} {A : Nat → Prop} {H0 : Heap} {lv : List (Nat × Value)} {mc ms : Nat} {a : Array Value}
theorem g_runVD (hC : CX p s m args c cc nL own G A) (hS : ST G ks ad V A s.heap H locs) {y : MethodName} {cy : ByteArray} {idx maxL n mc ms k w i ci N : Nat} {ret : Option FieldType} {rm : Room} {C : String} {T : u_T} {fs As : List Value} {Qc : Array Value → State → Outcome → State → Prop} {lv : List (Nat × Value)}
    (hk : (k, w, i) ∈ ks) (hc : cE G ad V k w i = .inr (ci, fs)) (hcl : vwCl[ci]? = some (C, T, N))
    (hM : MetD lw_cs l y (ws_ y cy maxL ret) rm (mPc (.ref (ad k w i) :: As) G ks ad V H.size) Qc mc ms (mA ks ad H.size))
    (hG : GoodIn lw_all (wsV own idx C y (ws_ y cy maxL ret))) (hyC : y.cls = C) (hY : mY R y maxL n rm mc ms) (hn : As.length = n) (hl : lv_has ls nL lv) (hst : st0 = As.reverse ++ .ref (ad k w i) :: rest) (hrest : (rest.map fun v => v.category).sum ≤ 8)
    (hd : decode cc pc = .ok (.invokevirtual idx, 3)) (hf : cells + mc ≤ R.cells ∧ slots + ms ≤ R.slots) :
    va_RunD lw_cs p l e R s m args below meth c H locs cells slots mc ms (F0 m pc ls st0) rest (Qc (Value.ref (ad k w i) :: As).toArray) (mA ks ad H.size) :=
  va_runV_D (C := C) ⟨hC.1, hC.2.1, hC.2.2.1, hC.2.2.2.1, hC.2.2.2.2.1⟩ hM (cwV n hC.2.2.2.2.1 hG rfl hY.2.1 hY.2.2.1 ⟨hyC, hY.1⟩ hY.2.2.2) ⟨mPc_blind, g_recv hC hS hk hc hcl, g_pre hC hS⟩ rfl hn hl.1 hst (lv_room hrest) hd hf
theorem g_calldD {d0 : Drawn} {post : UInt64 → VS → Prop} (hd0 : s.drawn.sameBut d0 lw_cs) (hS : ST G ks ad V A s.heap H locs) (hr : va_RunD lw_cs p l e R (s.setDrawn d0) m args below meth c H locs cells slots mc ms (F0 m pc ls st0) rest (mQd post G ks ad H.size a) (mA ks ad H.size))
    (kk : ∀ (r : UInt64) (V1 : VS) (H1 : Heap) (locs1 : List Loc) (d1 : Drawn), s.drawn.sameBut d1 lw_cs → post r V1 → ST G ks ad V1 A s.heap H1 locs1 → W p l e R (s.setDrawn d1) m args below meth c H1 locs1 (cells + mc) (slots + ms) Q (F0 m (pc + 3) ls (.double r :: rest))) : W p l e R (s.setDrawn d0) m args below meth c H locs cells slots Q (F0 m pc ls st0) :=
  va_calldD hd0 hr hS.2.1 (fun q _ h => hS.callA q h) hS.callA (fun r u t H1 locs1 ht _ hp hB _ _ hS1 d1 hd1 => kk r u H1 locs1 d1 hd1 hp ⟨by rw [← ht]; exact hB, hS1, hS.2.2.1, hS.2.2.2⟩)
end LAWD
def sp_daily (I : List KY → VS → Prop) (ks : List KY) (V : VS) : Prop := (0, 0, 0) ∈ ks ∧ (15, 0, 0) ∈ ks ∧ wp_X8_daily ks V (fun p V1 => wp_X10_daily ks V1 (fun q V2 => (∃ z : UInt64, alike64 p z = true ∧ alike64 q z = true) ∧ I ks V2))
set_option maxHeartbeats 4000000 in
set_option maxRecDepth 100000 in
theorem k_daily {p : Program} {l : Launch} {e : Env} {R : Room} {s : State} {m : MethodId} {args : Array Value} {below : List Frame} {meth : Method} {c : Code} {H : Heap} {locs : List Loc} {cells slots : Nat} {Q : State → Prop} {ls : Array Slot} {G : GG} {ks : List KY} {ad : AD} {V : VS} {A : Nat → Prop} {b L : Nat} {xs : Nat → Int32} {i : Int32} {I : List KY → VS → Prop} {d0 : Drawn} (hd0 : s.drawn.sameBut d0 lw_cs) (hlf : l.stackTraces = false) (hR : R = room_1) (hC : CX p s m args c cL_law 9 RL G A) (hS : ST G ks ad V A s.heap H locs) (hX : va_X b L xs s s.heap) (hbl : b < s.heap.size) (hbA : ¬ A b) (hin : ∀ j : Int32, j = 1 ∨ j = 2 ∨ j = 3 ∨ j = 4 → vp_in (i + j) L) (hl : lv_has ls 9 (LV ad i b)) (hcs : cells + 300 ≤ 601024 ∧ slots + 2000 ≤ 7293034) (h : sp_daily I ks V) (kk : ∀ (ks2 : List KY) (ad2 : AD) (V2 : VS) (H1 : Heap) (locs1 : List Loc) (ls1 : Array Slot) (d1 : Drawn), s.drawn.sameBut d1 lw_cs → I ks2 V2 → ST G ks2 ad2 V2 A s.heap H1 locs1 → lv_has ls1 9 (LV ad2 i b) → W p l e R (s.setDrawn d1) m args below meth c H1 locs1 (cells + 300) (slots + 2000) Q (F0 m 1447 ls1 [])) : W p l e R (s.setDrawn d0) m args below meth c H locs cells slots Q (F0 m 1392 ls []) := by
  unfold sp_daily at h
  obtain ⟨hk0, hk15, h⟩ := h
  refine lv_aload_n hC.1 hC.2.1 dL_law_1392 rfl (lv_at hl 3 rfl) ?_
  refine g_calldD hd0 hS (g_runVD (n := 0) (rest := []) (As := []) (C := RX8) (T := TX8) (N := 2) (hC.drawn d0) hS hk0 rfl rfl (c_X8_daily l G ks ad V _ h _) (gI wq_175 wq_176 wq_177 wq_39 wq_178) rfl ⟨⟨by decide +kernel, by decide +kernel, by decide +kernel⟩, rfl, rfl, by subst hR; exact Nat.le_of_ble_eq_true rfl, by subst hR; exact Nat.le_of_ble_eq_true rfl⟩ rfl hl rfl (Nat.le_of_ble_eq_true rfl) dL_law_1393 ⟨by subst hR; show cells + 0 ≤ 601024; omega, by subst hR; show slots + 0 ≤ 7293034; omega⟩) (fun p9 V1 H locs d1 hd1 h hS => ?_)
  refine lv_dstore (lv' := [(5, .double p9), (4, .int i), (3, .ref (ad 34 0 0)), (2, .ref (ad 15 0 0)), (1, .ref (ad 0 0 0)), (0, .ref b)]) hC.1 hC.2.1 dL_law_1396 hl (by decide) rfl (fun ls hl => ?_)
  refine lv_aload_n hC.1 hC.2.1 dL_law_1398 rfl (lv_at hl 3 rfl) ?_
  refine g_calldD hd1 hS (g_runVD (n := 0) (rest := []) (As := []) (C := RX10) (T := TX10) (N := 13) (hC.drawn d1) hS hk15 rfl rfl (c_X10_daily l G ks ad V1 _ h _) (gI wq_1288 wq_1289 wq_1290 wq_46 wq_1291) rfl ⟨⟨by decide +kernel, by decide +kernel, by decide +kernel⟩, rfl, rfl, by subst hR; exact Nat.le_of_ble_eq_true rfl, by subst hR; exact Nat.le_of_ble_eq_true rfl⟩ rfl hl rfl (Nat.le_of_ble_eq_true rfl) dL_law_1399 ⟨by subst hR; show cells + 0 + 0 ≤ 601024; omega, by subst hR; show slots + 0 + 0 ≤ 7293034; omega⟩) (fun q9 V2 H locs d2 hd2 h hS => ?_)
  refine W.widen (k := cells + 300) (n := slots + 2000) (by omega) (by omega) ?_
  obtain ⟨⟨z, hz1, hz2⟩, h⟩ := h
  refine lv_dstore (lv' := [(7, .double q9), (5, .double p9), (4, .int i), (3, .ref (ad 34 0 0)), (2, .ref (ad 15 0 0)), (1, .ref (ad 0 0 0)), (0, .ref b)]) hC.1 hC.2.1 dL_law_1402 hl (by decide) rfl (fun ls hl => ?_)
  have hend : W p l e R (s.setDrawn d2) m args below meth c H locs (cells + 300) (slots + 2000) Q (F0 m 1430 ls []) := by
    refine lv_goto (tgt := 1447) hC.1 hC.2.1 dL_law_1430 (by decide) ?_
    exact kk ks ad V2 H locs ls d2 hd2 h hS (lv_sub hl [2, 3, 4, 5, 6] rfl)
  refine lv_dload hC.1 hC.2.1 dL_law_1404 (lv_at hl 1 rfl) ?_
  refine lv_dload hC.1 hC.2.1 dL_law_1406 (lv_at hl 0 rfl) ?_
  refine lv_dcmp hC.1 hC.2.1 dL_law_1408 ?_
  refine lv_if_eq (tgt := 1430) hC.1 hC.2.1 dL_law_1409 (by decide) (fun _ => hend) (fun h1 => ?_)
  refine lv_dload hC.1 hC.2.1 dL_law_1412 (lv_at hl 1 rfl) ?_
  refine lv_dload hC.1 hC.2.1 dL_law_1414 (lv_at hl 1 rfl) ?_
  refine lv_dcmp hC.1 hC.2.1 dL_law_1416 ?_
  have hpq : p9 = q9 ∨ (isNaN64 p9 = true ∧ isNaN64 q9 = true) := by
    unfold alike64 at hz1 hz2
    simp only [Bool.or_eq_true, decide_eq_true_eq, Bool.and_eq_true] at hz1 hz2
    rcases hz1 with rfl | ⟨a1, a2⟩
    · rcases hz2 with rfl | ⟨b1, b2⟩
      · exact Or.inl rfl
      · exact Or.inr ⟨b2, b1⟩
    · rcases hz2 with rfl | ⟨b1, b2⟩
      · exact Or.inr ⟨a1, a2⟩
      · exact Or.inr ⟨a1, b1⟩
  have hp : ¬ Op.cmpValue (FP.dcmp p9 p9) CmpOp.l = 0 := by
    rcases hpq with rfl | ⟨a1, a2⟩
    · exact h1
    · rw [dcmp_nan _ a1]; decide
  have hq : ¬ Op.cmpValue (FP.dcmp q9 q9) CmpOp.l = 0 := by
    rcases hpq with rfl | ⟨a1, a2⟩
    · exact h1
    · rw [dcmp_nan _ a2]; decide
  refine lv_if_eq (tgt := 1428) hC.1 hC.2.1 dL_law_1417 (by decide) (fun z => absurd z hp) (fun _ => ?_)
  refine lv_dload hC.1 hC.2.1 dL_law_1420 (lv_at hl 0 rfl) ?_
  refine lv_dload hC.1 hC.2.1 dL_law_1422 (lv_at hl 0 rfl) ?_
  refine lv_dcmp hC.1 hC.2.1 dL_law_1424 ?_
  refine lv_if_ne (tgt := 1430) hC.1 hC.2.1 dL_law_1425 (by decide) (fun _ => hend) (fun z => absurd z hq)
def sp_digest (I : List KY → VS → Prop) (ks : List KY) (V : VS) : Prop := (0, 0, 0) ∈ ks ∧ (15, 0, 0) ∈ ks ∧ wp_X8_digest ks V (fun p V1 => wp_X10_digest ks V1 (fun q V2 => p = q ∧ I ks V2))
set_option maxHeartbeats 4000000 in
set_option maxRecDepth 100000 in
theorem k_digest {p : Program} {l : Launch} {e : Env} {R : Room} {s : State} {m : MethodId} {args : Array Value} {below : List Frame} {meth : Method} {c : Code} {H : Heap} {locs : List Loc} {cells slots : Nat} {Q : State → Prop} {ls : Array Slot} {G : GG} {ks : List KY} {ad : AD} {V : VS} {A : Nat → Prop} {b L : Nat} {xs : Nat → Int32} {i : Int32} {I : List KY → VS → Prop} (hlf : l.stackTraces = false) (hR : R = room_1) (hC : CX p s m args c cL_law 9 RL G A) (hS : ST G ks ad V A s.heap H locs) (hX : va_X b L xs s s.heap) (hbl : b < s.heap.size) (hbA : ¬ A b) (hin : ∀ j : Int32, j = 1 ∨ j = 2 ∨ j = 3 ∨ j = 4 → vp_in (i + j) L) (hl : lv_has ls 9 (LV ad i b)) (hcs : cells + 300 ≤ 601024 ∧ slots + 2000 ≤ 7293034) (h : sp_digest I ks V) (kk : ∀ (ks2 : List KY) (ad2 : AD) (V2 : VS) (H1 : Heap) (locs1 : List Loc) (ls1 : Array Slot), I ks2 V2 → ST G ks2 ad2 V2 A s.heap H1 locs1 → lv_has ls1 9 (LV ad2 i b) → W p l e R s m args below meth c H1 locs1 (cells + 300) (slots + 2000) Q (F0 m 1447 ls1 [])) : W p l e R s m args below meth c H locs cells slots Q (F0 m 1433 ls []) := by
  unfold sp_digest at h
  obtain ⟨hk0, hk15, h⟩ := h
  refine lv_aload_n hC.1 hC.2.1 dL_law_1433 rfl (lv_at hl 3 rfl) ?_
  refine g_calll hS (g_runV (n := 0) (rest := []) (As := []) (C := RX8) (T := TX8) (N := 2) hC hS hk0 rfl rfl (c_X8_digest l G ks ad V _ h _) (gI wq_202 wq_203 wq_204 wq_39 wq_205) rfl ⟨⟨by decide +kernel, by decide +kernel, by decide +kernel⟩, rfl, rfl, by subst hR; exact Nat.le_of_ble_eq_true rfl, by subst hR; exact Nat.le_of_ble_eq_true rfl⟩ rfl hl rfl (Nat.le_of_ble_eq_true rfl) dL_law_1434 ⟨by subst hR; show cells + 0 ≤ 601024; omega, by subst hR; show slots + 0 ≤ 7293034; omega⟩) (fun p9 V1 H locs h hS => ?_)
  refine lv_aload_n hC.1 hC.2.1 dL_law_1437 rfl (lv_at hl 2 rfl) ?_
  refine g_calll hS (g_runV (n := 0) (rest := [.long p9]) (As := []) (C := RX10) (T := TX10) (N := 13) hC hS hk15 rfl rfl (c_X10_digest l G ks ad V1 _ h _) (gI wq_1292 wq_1293 wq_1294 wq_46 wq_1295) rfl ⟨⟨by decide +kernel, by decide +kernel, by decide +kernel⟩, rfl, rfl, by subst hR; exact Nat.le_of_ble_eq_true rfl, by subst hR; exact Nat.le_of_ble_eq_true rfl⟩ rfl hl rfl (Nat.le_of_ble_eq_true rfl) dL_law_1438 ⟨by subst hR; show cells + 0 + 211 ≤ 601024; omega, by subst hR; show slots + 0 + 1510 ≤ 7293034; omega⟩) (fun q9 V2 H locs h hS => ?_)
  refine W.widen (k := cells + 300) (n := slots + 2000) (by omega) (by omega) ?_
  obtain ⟨rfl, h⟩ := h
  refine W.lcmp hC.1 hC.2.1 dL_law_1441 ?_
  rw [lg_same]
  refine lv_if_eq (tgt := 1447) hC.1 hC.2.1 dL_law_1442 (by decide) (fun _ => ?_) (fun z => absurd rfl z)
  exact kk ks ad V2 H locs ls h hS hl
