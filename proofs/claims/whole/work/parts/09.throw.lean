/-! methods that throw -/
def exN (n : Nat) : String := match n with
  | 1 => "java/lang/IndexOutOfBoundsException"
  | 2 => "java/lang/IllegalArgumentException"
  | _ => "java/lang/IllegalStateException"
def mX (xp : Nat → VS → Prop) (G : GG) (ks : List KY) (ad : AD) (sz : Nat) : String → State → State → Prop := vx_X (fun u : Nat × VS => xp u.1 u.2) (fun E u t => E = exN u.1 ∧ va_P G.1 vwCl (pic G ks ad u.2) t.heap) (mA ks ad sz)
theorem g_xmet {l : Launch} {y : MethodName} {own : String} {cc : ByteArray} {maxL : Nat} {ret : Option FieldType} {rm : Room} {av : List Value} {G : GG} {ks : List KY} {ad : AD} {V : VS} {sz mc ms : Nat} {Qc : Array Value → State → Outcome → State → Prop} {XC : String → State → State → Prop}
    (hy : plainName y.cls = true) (hyo : y.cls = own) (hav : (lg_sl av).length ≤ maxL)
    (body : ∀ (p : Program) (e : Env) (s : State) (m : MethodId) (args : Array Value) (below : List Frame) (meth : Method) (c : Code) (ls : Array Slot), CX p s m args c cc maxL own G (mA ks ad sz) → s.heap.size = sz → meth.sig.returnType = ret → meth.locks = false → meth.name = y.name → ST G ks ad V (mA ks ad sz) s.heap s.heap [] → args = av.toArray → lv_has ls maxL (lv_args 0 av) → (∀ x ∈ c.exceptionTable.toList, False) →
      W p l e rm s m args below meth c s.heap [] 0 0 (vx_MQ below Qc XC args s mc ms (mA ks ad sz)) (F0 m 0 ls [])) : vx_Met l y (ws_ y cc maxL ret) rm (mPc av G ks ad V sz) Qc XC mc ms (mA ks ad sz) := by
  refine vx_ofW (cc := cc) (maxL := maxL) (ret := ret) hy rfl ?_
  intro p e s m args below meth c s₁ B hml htab hv
  obtain ⟨rfl, hsz, hP, hK, hZ, hD0⟩ := hv
  have hts := atoms_spec (ws := ws_ y cc maxL ret) B.pre
  have hown : s.vm.findClass own = some m.cls := by rw [← hyo]; exact findClass_of_methodNamed B.named
  have hin : meth.name = y.name := (name_of_methodNamed B.named B.method).1
  have hl := lv_entry av (n := maxL) hav
  rw [lg_entry_eq]
  generalize (lg_sl av ++ List.replicate (maxL - (lg_sl av).length) Slot.unset).toArray = ls at hl ⊢
  refine body p e s m _ below meth c ls ⟨B.exec, B.bytes, hml, hown, fun w hw => hts w (List.mem_cons_of_mem _ hw), hK, hZ⟩ hsz B.returns B.notSynchronized hin ⟨hP, va_S.rf, hD0.mA, fun q hq => Or.inr (by rw [← hsz]; exact hq)⟩ rfl hl htab
theorem hat_3 : ∀ w ∈ (vx_atS RX8 33 (exN 3) ["java/lang/RuntimeException", "java/lang/Exception"]).filter goodWord, w ∈ lw_tbl := by decide +kernel
theorem hat_2 : ∀ w ∈ (vx_atS RX8 51 (exN 2) ["java/lang/RuntimeException", "java/lang/Exception"]).filter goodWord, w ∈ lw_tbl := by decide +kernel
theorem hat_1 : ∀ w ∈ (vx_atS RX8 229 (exN 1) ["java/lang/RuntimeException", "java/lang/Exception"]).filter goodWord, w ∈ lw_tbl := by decide +kernel
theorem hbt_3 : ∀ w ∈ (vx_atS RX8 33 (exN 3) ["java/lang/RuntimeException", "java/lang/Exception"]).filter (fun w => !goodWord w), w ∈ lw_tbl ∧ isNest w = true ∧ w.onTables = true := by decide +kernel
theorem hbt_2 : ∀ w ∈ (vx_atS RX8 51 (exN 2) ["java/lang/RuntimeException", "java/lang/Exception"]).filter (fun w => !goodWord w), w ∈ lw_tbl ∧ isNest w = true ∧ w.onTables = true := by decide +kernel
theorem hbt_1 : ∀ w ∈ (vx_atS RX8 229 (exN 1) ["java/lang/RuntimeException", "java/lang/Exception"]).filter (fun w => !goodWord w), w ∈ lw_tbl ∧ isNest w = true ∧ w.onTables = true := by decide +kernel
theorem hgd_3 : ∀ w ∈ Cond.classLink RX8 29 (exN 3) :: Cond.initialized (exN 3) :: vx_atS RX8 33 (exN 3) ["java/lang/RuntimeException", "java/lang/Exception"], vx_ot w = true := by decide +kernel
theorem hgd_2 : ∀ w ∈ Cond.classLink RX8 47 (exN 2) :: Cond.initialized (exN 2) :: vx_atS RX8 51 (exN 2) ["java/lang/RuntimeException", "java/lang/Exception"], vx_ot w = true := by decide +kernel
theorem hgd_1 : ∀ w ∈ Cond.classLink RX8 225 (exN 1) :: Cond.initialized (exN 1) :: vx_atS RX8 229 (exN 1) ["java/lang/RuntimeException", "java/lang/Exception"], vx_ot w = true := by decide +kernel
section GTHROW
variable {p : Program} {l : Launch} {e : Env} {R : Room} {s : State} {m : MethodId} {args : Array Value} {below : List Frame} {meth : Method} {c : Code} {H : Heap} {locs : List Loc} {cells slots : Nat}
variable {cc : ByteArray} {pc nL sz : Nat} {own : String} {ls : Array Slot} {rest st0 : List Value} {G : GG} {ks : List KY} {ad : AD} {V : VS} {lv : List (Nat × Value)} {MC MS : Nat} {Qc : Array Value → State → Outcome → State → Prop}
theorem hat_all {n ic : Nat} {A : Nat → Prop} (hC : CX p s m args c cc nL own G A) (h1 : ∀ w ∈ (vx_atS RX8 ic (exN n) ["java/lang/RuntimeException", "java/lang/Exception"]).filter goodWord, w ∈ lw_tbl) (h2 : ∀ w ∈ (vx_atS RX8 ic (exN n) ["java/lang/RuntimeException", "java/lang/Exception"]).filter (fun w => !goodWord w), w ∈ lw_tbl ∧ isNest w = true ∧ w.onTables = true) : ∀ w ∈ vx_atS RX8 ic (exN n) ["java/lang/RuntimeException", "java/lang/Exception"], w.before args s = true := by
  intro w hw
  by_cases g : goodWord w = true
  · exact hC.2.2.2.2.1 w (lw_mem (h1 w (List.mem_filter.mpr ⟨hw, g⟩)) g)
  · have hn := h2 w (List.mem_filter.mpr ⟨hw, by
      cases hgw : goodWord w
      · rfl
      · exact absurd hgw g⟩)
    exact va_Nw.use hn.2.2 (hC.2.2.2.2.2.1.2.1 w hn.1 hn.2.1)
/-- new E(text); athrow (the text by ldc) -/
theorem g_throw {n ik is ic : Nat} {text : String} {xp : Nat → VS → Prop} (hlf : l.stackTraces = false) (hC : CX p s m args c cc nL RX8 G (mA ks ad sz)) (hS : ST G ks ad V (mA ks ad sz) s.heap H locs) (hl : lv_has ls nL lv) (htab : ∀ x ∈ c.exceptionTable.toList, False) (hlk : meth.locks = false)
    (hfit : Bundle.fit (exN n) = true) (h1 : ∀ w ∈ (vx_atS RX8 ic (exN n) ["java/lang/RuntimeException", "java/lang/Exception"]).filter goodWord, w ∈ lw_tbl) (h2 : ∀ w ∈ (vx_atS RX8 ic (exN n) ["java/lang/RuntimeException", "java/lang/Exception"]).filter (fun w => !goodWord w), w ∈ lw_tbl ∧ isNest w = true ∧ w.onTables = true)
    (h3 : ∀ w ∈ Cond.classLink RX8 ik (exN n) :: Cond.initialized (exN n) :: vx_atS RX8 ic (exN n) ["java/lang/RuntimeException", "java/lang/Exception"], vx_ot w = true) (hk : Cond.classLink RX8 ik (exN n) ∈ lw_all) (hini : Cond.initialized (exN n) ∈ lw_all) (hstr : Cond.stringRef RX8 is text ∈ lw_tbl)
    (d0 : decode cc pc = .ok (.new ik, 3)) (d3 : decode cc (pc + 3) = .ok (.dup, 1)) (d4 : decode cc (pc + 4) = .ok (.ldc is, 2)) (d6 : decode cc (pc + 6) = .ok (.invokespecial ic, 3)) (d9 : decode cc (pc + 9) = .ok (.athrow, 1))
    (hR : 5 < R.frames ∧ (rest.map fun v => v.category).sum + 82 ≤ R.locals ∧ cells + 1 ≤ R.cells ∧ slots + 6 ≤ R.slots) (hc : cells + 1 ≤ MC ∧ slots + 6 ≤ MS) (h : xp n V) :
    W p l e R s m args below meth c H locs cells slots (vx_MQ below Qc (mX xp G ks ad sz) args s MC MS (mA ks ad sz)) (F0 m pc ls rest) := by
  obtain ⟨sa, hsa⟩ := hC.2.2.2.2.2.1.2.2.1 RX8 text is hstr
  refine vx_throwS hC.1 hC.2.1 hlf hC.2.2.2.1 hfit (by decide +kernel) (hC.2.2.2.2.1 _ hk) (hC.2.2.2.2.1 _ hini) hsa (hat_all hC h1 h2) h3 hC.2.2.2.2.2.2.1 hC.2.2.2.2.2.2.2.1 hS.2.1 (hl.1.trans hC.2.2.1.symm) d0 d3 d4 d6 d9 (fun x hx => (htab x hx).elim) hR.1 hR.2.1 hR.2.2.1 hR.2.2.2 hlk (fun t _ hz hk => ⟨(n, V), h, ⟨rfl, hS.1.kept (fun k q hq => hk q.1 (hS.1 k q hq).lt)⟩, Nat.le_trans hS.2.1.1 hz, fun q h1 h2 => by rw [hk q (Nat.lt_of_lt_of_le h1 hS.2.1.1)]; exact hS.2.1.2.1 q h1 h2⟩) hS.2.1.2.2 hc.1 hc.2
theorem g_throwW {n ik is ic : Nat} {text : String} {xp : Nat → VS → Prop} (hlf : l.stackTraces = false) (hC : CX p s m args c cc nL RX8 G (mA ks ad sz)) (hS : ST G ks ad V (mA ks ad sz) s.heap H locs) (hl : lv_has ls nL lv) (htab : ∀ x ∈ c.exceptionTable.toList, False) (hlk : meth.locks = false)
    (hfit : Bundle.fit (exN n) = true) (h1 : ∀ w ∈ (vx_atS RX8 ic (exN n) ["java/lang/RuntimeException", "java/lang/Exception"]).filter goodWord, w ∈ lw_tbl) (h2 : ∀ w ∈ (vx_atS RX8 ic (exN n) ["java/lang/RuntimeException", "java/lang/Exception"]).filter (fun w => !goodWord w), w ∈ lw_tbl ∧ isNest w = true ∧ w.onTables = true)
    (h3 : ∀ w ∈ Cond.classLink RX8 ik (exN n) :: Cond.initialized (exN n) :: vx_atS RX8 ic (exN n) ["java/lang/RuntimeException", "java/lang/Exception"], vx_ot w = true) (hk : Cond.classLink RX8 ik (exN n) ∈ lw_all) (hini : Cond.initialized (exN n) ∈ lw_all) (hstr : Cond.stringRef RX8 is text ∈ lw_tbl)
    (d0 : decode cc pc = .ok (.new ik, 3)) (d3 : decode cc (pc + 3) = .ok (.dup, 1)) (d4 : decode cc (pc + 4) = .ok (.ldc_w is, 3)) (d6 : decode cc (pc + 7) = .ok (.invokespecial ic, 3)) (d9 : decode cc (pc + 10) = .ok (.athrow, 1))
    (hR : 5 < R.frames ∧ (rest.map fun v => v.category).sum + 82 ≤ R.locals ∧ cells + 1 ≤ R.cells ∧ slots + 6 ≤ R.slots) (hc : cells + 1 ≤ MC ∧ slots + 6 ≤ MS) (h : xp n V) :
    W p l e R s m args below meth c H locs cells slots (vx_MQ below Qc (mX xp G ks ad sz) args s MC MS (mA ks ad sz)) (F0 m pc ls rest) := by
  obtain ⟨sa, hsa⟩ := hC.2.2.2.2.2.1.2.2.1 RX8 text is hstr
  refine vx_throwSW hC.1 hC.2.1 hlf hC.2.2.2.1 hfit (by decide +kernel) (hC.2.2.2.2.1 _ hk) (hC.2.2.2.2.1 _ hini) hsa (hat_all hC h1 h2) h3 hC.2.2.2.2.2.2.1 hC.2.2.2.2.2.2.2.1 hS.2.1 (hl.1.trans hC.2.2.1.symm) d0 d3 d4 d6 d9 (fun x hx => (htab x hx).elim) hR.1 hR.2.1 hR.2.2.1 hR.2.2.2 hlk (fun t _ hz hk => ⟨(n, V), h, ⟨rfl, hS.1.kept (fun k q hq => hk q.1 (hS.1 k q hq).lt)⟩, Nat.le_trans hS.2.1.1 hz, fun q h1 h2 => by rw [hk q (Nat.lt_of_lt_of_le h1 hS.2.1.1)]; exact hS.2.1.2.1 q h1 h2⟩) hS.2.1.2.2 hc.1 hc.2
theorem g_xrunV {A : Nat → Prop} (hC : CX p s m args c cc nL own G A) (hS : ST G ks ad V A s.heap H locs) {y : MethodName} {cy : ByteArray} {idx maxL n mc ms k w i ci N : Nat} {ret : Option FieldType} {rm : Room} {C : String} {T : u_T} {fs As : List Value} {XC : String → State → State → Prop}
    (hk : (k, w, i) ∈ ks) (hc : cE G ad V k w i = .inr (ci, fs)) (hcl : vwCl[ci]? = some (C, T, N))
    (hM : vx_Met l y (ws_ y cy maxL ret) rm (mPc (.ref (ad k w i) :: As) G ks ad V H.size) Qc XC mc ms (mA ks ad H.size))
    (hG : GoodIn lw_all (wsV own idx C y (ws_ y cy maxL ret))) (hyC : y.cls = C) (hY : mY R y maxL n rm mc ms) (hn : As.length = n) (hl : lv_has ls nL lv) (hst : st0 = As.reverse ++ .ref (ad k w i) :: rest) (hrest : (rest.map fun v => v.category).sum ≤ 8)
    (hd : decode cc pc = .ok (.invokevirtual idx, 3)) (hf : cells + mc ≤ R.cells ∧ slots + ms ≤ R.slots) :
    vx_Run p l e R s m args below meth c H locs cells slots mc ms (F0 m pc ls st0) rest (Qc (Value.ref (ad k w i) :: As).toArray) XC (mA ks ad H.size) :=
  vx_runV (C := C) ⟨hC.1, hC.2.1, hC.2.2.1, hC.2.2.2.1, hC.2.2.2.2.1⟩ hM (cwV n hC.2.2.2.2.1 hG rfl hY.2.1 hY.2.2.1 ⟨hyC, hY.1⟩ hY.2.2.2) ⟨mPc_blind, g_recv hC hS hk hc hcl, g_pre hC hS⟩ rfl hn hl.1 hst (lv_room hrest) hd hf
theorem g_xrunS {A : Nat → Prop} (hC : CX p s m args c cc nL own G A) (hS : ST G ks ad V A s.heap H locs) {y : MethodName} {cy : ByteArray} {idx maxL n mc ms : Nat} {ret : Option FieldType} {rm : Room} {As : List Value} {XC : String → State → State → Prop}
    (hM : vx_Met l y (ws_ y cy maxL ret) rm (mPc As G ks ad V H.size) Qc XC mc ms (mA ks ad H.size))
    (hG : GoodIn lw_all (va_wsS own idx y (ws_ y cy maxL ret))) (hY : mY R y maxL n rm mc ms) (hn : As.length = n) (hl : lv_has ls nL lv) (hst : st0 = As.reverse ++ rest) (hrest : (rest.map fun v => v.category).sum ≤ 8)
    (hd : decode cc pc = .ok (.invokestatic idx, 3)) (hf : cells + mc ≤ R.cells ∧ slots + ms ≤ R.slots) :
    vx_Run p l e R s m args below meth c H locs cells slots mc ms (F0 m pc ls st0) rest (Qc As.toArray) XC (mA ks ad H.size) :=
  vx_runS ⟨hC.1, hC.2.1, hC.2.2.1, hC.2.2.2.1, hC.2.2.2.2.1⟩ hM (va_cwS n hC.2.2.2.2.1 hG rfl hY.2.1 hY.2.2.1 hY.1 hY.2.2.2) ⟨mPc_blind, g_pre hC hS⟩ rfl hn hl.1 hst (lv_room hrest) hd hf
variable {mc ms : Nat} {a : Array Value} {xp : Nat → VS → Prop}
theorem g_xout {u : Nat × VS} {t : State} {H1 : Heap} {locs1 : List Loc} {E : String} {ce : Cell} {q9 : Addr} (htab : ∀ x ∈ c.exceptionTable.toList, False) (hlk : meth.locks = false) (hc : cells ≤ MC) (hs : slots ≤ MS) (ht : t.heap = H1) (hp : xp u.1 u.2) (hB : E = exN u.1 ∧ va_P G.1 vwCl (pic G ks ad u.2) t.heap) (hS1 : va_S (mA ks ad sz) s.heap H1 locs1) (hcell : H1[q9]? = some ce) (hv : ce.vm = .none) (hcl : s.vm.findClass E = some ce.cls) :
    vx_W p l e R s m args below meth c H1 locs1 cells slots (vx_MQ below Qc (mX xp G ks ad sz) args s MC MS (mA ks ad sz)) (F0 m pc ls rest) q9 :=
  vx_out (fun x hx => (htab x hx).elim) hlk hcell hv hcl (fun t' ht' _ => ⟨u, hp, ⟨hB.1, by rw [ht', ← ht]; exact hB.2⟩, hS1.F ht'⟩) hS1.2.2 hc hs
theorem g_xcalli {post : Int32 → VS → Prop} (hS : ST G ks ad V (mA ks ad sz) s.heap H locs) (htab : ∀ x ∈ c.exceptionTable.toList, False) (hlk : meth.locks = false) (hc : cells + mc ≤ MC ∧ slots + ms ≤ MS) (hr : vx_Run p l e R s m args below meth c H locs cells slots mc ms (F0 m pc ls st0) rest (mQi post G ks ad H.size a) (mX xp G ks ad H.size) (mA ks ad H.size))
    (kk : ∀ (r : Int32) (V1 : VS) (H1 : Heap) (locs1 : List Loc), post r V1 → ST G ks ad V1 (mA ks ad sz) s.heap H1 locs1 → W p l e R s m args below meth c H1 locs1 (cells + mc) (slots + ms) (vx_MQ below Qc (mX xp G ks ad sz) args s MC MS (mA ks ad sz)) (F0 m (pc + 3) ls (.int r :: rest))) : W p l e R s m args below meth c H locs cells slots (vx_MQ below Qc (mX xp G ks ad sz) args s MC MS (mA ks ad sz)) (F0 m pc ls st0) :=
  vx_calli hr hS.2.1 (fun q _ h => hS.callA q h) hS.callA (fun q _ h => hS.callA q h) (fun E ce q9 u t H1 locs1 ht _ hp hB _ _ hS1 hcell hv hcl => g_xout htab hlk hc.1 hc.2 ht hp hB hS1 hcell hv hcl) (fun r u t H1 locs1 ht _ hp hB _ _ hS1 => kk r u H1 locs1 hp ⟨by rw [← ht]; exact hB, hS1, hS.2.2.1, hS.2.2.2⟩)
theorem g_xcallv {post : VS → Prop} (hS : ST G ks ad V (mA ks ad sz) s.heap H locs) (htab : ∀ x ∈ c.exceptionTable.toList, False) (hlk : meth.locks = false) (hc : cells + mc ≤ MC ∧ slots + ms ≤ MS) (hr : vx_Run p l e R s m args below meth c H locs cells slots mc ms (F0 m pc ls st0) rest (mQv post G ks ad H.size a) (mX xp G ks ad H.size) (mA ks ad H.size))
    (kk : ∀ (V1 : VS) (H1 : Heap) (locs1 : List Loc), post V1 → ST G ks ad V1 (mA ks ad sz) s.heap H1 locs1 → W p l e R s m args below meth c H1 locs1 (cells + mc) (slots + ms) (vx_MQ below Qc (mX xp G ks ad sz) args s MC MS (mA ks ad sz)) (F0 m (pc + 3) ls rest)) : W p l e R s m args below meth c H locs cells slots (vx_MQ below Qc (mX xp G ks ad sz) args s MC MS (mA ks ad sz)) (F0 m pc ls st0) :=
  vx_callv hr hS.2.1 (fun q _ h => hS.callA q h) hS.callA (fun q _ h => hS.callA q h) (fun E ce q9 u t H1 locs1 ht _ hp hB _ _ hS1 hcell hv hcl => g_xout htab hlk hc.1 hc.2 ht hp hB hS1 hcell hv hcl) (fun u t H1 locs1 ht _ hp hB _ _ hS1 => kk u H1 locs1 hp ⟨by rw [← ht]; exact hB, hS1, hS.2.2.1, hS.2.2.2⟩)
end GTHROW
theorem sr_31 : Cond.stringRef RX8 31 "there are 8 halts" ∈ lw_tbl := List.mem_of_getElem? (i := 380) (by decide +kernel)
theorem sr_227 : Cond.stringRef RX8 227 "there is nothing with this number" ∈ lw_tbl := List.mem_of_getElem? (i := 509) (by decide +kernel)
theorem sr_49 : Cond.stringRef RX8 49 "a lane goes between two different halts" ∈ lw_tbl := List.mem_of_getElem? (i := 525) (by decide +kernel)
theorem sr_56 : Cond.stringRef RX8 56 "length is not 1 to 30" ∈ lw_tbl := List.mem_of_getElem? (i := 535) (by decide +kernel)
theorem sr_58 : Cond.stringRef RX8 58 "clay is not 0 to 9" ∈ lw_tbl := List.mem_of_getElem? (i := 536) (by decide +kernel)
theorem sr_63 : Cond.stringRef RX8 63 "there are 16 lanes" ∈ lw_tbl := List.mem_of_getElem? (i := 537) (by decide +kernel)
theorem sr_74 : Cond.stringRef RX8 74 "rain is not 0 to 9" ∈ lw_tbl := List.mem_of_getElem? (i := 574) (by decide +kernel)
theorem sr_81 : Cond.stringRef RX8 81 "halts is not a number of at most 8 digits" ∈ lw_tbl := List.mem_of_getElem? (i := 587) (by decide +kernel)
theorem sr_87 : Cond.stringRef RX8 87 "a digit of halts stands for no halt" ∈ lw_tbl := List.mem_of_getElem? (i := 591) (by decide +kernel)
theorem sr_89 : Cond.stringRef RX8 89 "minutes is not 10 to 300" ∈ lw_tbl := List.mem_of_getElem? (i := 592) (by decide +kernel)
theorem sr_110 : Cond.stringRef RX8 110 "shelf is not 0 to 5" ∈ lw_tbl := List.mem_of_getElem? (i := 657) (by decide +kernel)
theorem sr_115 : Cond.stringRef RX8 115 "there are 24 books" ∈ lw_tbl := List.mem_of_getElem? (i := 658) (by decide +kernel)
theorem sr_121 : Cond.stringRef RX8 121 "keeps is not 1 to 30" ∈ lw_tbl := List.mem_of_getElem? (i := 712) (by decide +kernel)
theorem sr_126 : Cond.stringRef RX8 126 "there are 10 readers" ∈ lw_tbl := List.mem_of_getElem? (i := 713) (by decide +kernel)
theorem sr_151 : Cond.stringRef RX8 151 "the reader is in the queue" ∈ lw_tbl := List.mem_of_getElem? (i := 775) (by decide +kernel)
theorem sr_157 : Cond.stringRef RX8 157 "the reader has the book" ∈ lw_tbl := List.mem_of_getElem? (i := 776) (by decide +kernel)
theorem sr_175 : Cond.stringRef RX8 175 "pence is less than 1, or more than is owed" ∈ lw_tbl := List.mem_of_getElem? (i := 816) (by decide +kernel)
theorem sr_230 : Cond.stringRef RX8 230 "so many days are not allowed" ∈ lw_tbl := List.mem_of_getElem? (i := 827) (by decide +kernel)
theorem sr_205 : Cond.stringRef RX8 205 "the round has 8 halts" ∈ lw_tbl := List.mem_of_getElem? (i := 958) (by decide +kernel)
