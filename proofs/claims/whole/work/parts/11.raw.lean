/-! constructors: a small world of its own, cell by cell -/
def rPc (av : List Value) (G : GG) (ws : va_W) (sz : Nat) : Array Value → State → Prop := va_Pc av (fun U => U.heap.size = sz ∧ va_P G.1 vwCl ws U.heap ∧ gK G U ∧ gZ G (va_A ws sz) U U.heap ∧ va_D (fun _ => True) ws)
def rB {S : Type} (w : S → va_W) (G : GG) (ws : va_W) (sz : Nat) : S → State → Prop := fun u t => va_P G.1 vwCl (w u) t.heap ∧ va_D (va_A ws sz) (w u)
def rQ {S : Type} (w : S → va_W) (G : GG) (ws : va_W) (sz : Nat) : Array Value → State → Outcome → State → Prop := va_Qv (fun _ : S => True) (rB w G ws sz) (va_A ws sz)
theorem rPc_blind {av : List Value} {G : GG} {ws : va_W} {sz : Nat} : FrameBlind (rPc av G ws sz) := fun _ U g mk h => ⟨h.1, h.2.1, h.2.2.1, h.2.2.2.1.calling, gZ.go (Vm.Alike.refl U.vm) (fun _ _ _ => rfl) (fun _ z => z) h.2.2.2.2.1, h.2.2.2.2.2⟩
theorem r_met {l : Launch} {y : MethodName} {own : String} {cc : ByteArray} {maxL : Nat} {ret : Option FieldType} {rm : Room} {av : List Value} {G : GG} {ws : va_W} {sz mc ms : Nat} {Qc : Array Value → State → Outcome → State → Prop}
    (hy : plainName y.cls = true) (hyo : y.cls = own) (hav : (lg_sl av).length ≤ maxL)
    (body : ∀ (p : Program) (e : Env) (s : State) (m : MethodId) (args : Array Value) (below : List Frame) (meth : Method) (c : Code) (ls : Array Slot), CX p s m args c cc maxL own G (va_A ws sz) → s.heap.size = sz → meth.sig.returnType = ret → meth.locks = false → meth.name = y.name → va_P G.1 vwCl ws s.heap → va_D (va_A ws sz) ws → va_S (va_A ws sz) s.heap s.heap [] → (∀ q, s.heap.size ≤ q → va_A ws sz q) → args = av.toArray → lv_has ls maxL (lv_args 0 av) →
      W p l e rm s m args below meth c s.heap [] 0 0 (MQ below Qc args s mc ms (va_A ws sz)) (F0 m 0 ls [])) : Met l y (ws_ y cc maxL ret) rm (rPc av G ws sz) Qc mc ms (va_A ws sz) := by
  refine Met.ofW (cc := cc) (maxL := maxL) (ret := ret) hy rfl ?_
  intro p e s m args below meth c s₁ B hml hv
  obtain ⟨rfl, hsz, hP, hK, hZ, hD0⟩ := hv
  have hts := atoms_spec (ws := ws_ y cc maxL ret) B.pre
  have hown : s.vm.findClass own = some m.cls := by rw [← hyo]; exact findClass_of_methodNamed B.named
  have hin : meth.name = y.name := (name_of_methodNamed B.named B.method).1
  have hl := lv_entry av (n := maxL) hav
  rw [lg_entry_eq]
  generalize (lg_sl av ++ List.replicate (maxL - (lg_sl av).length) Slot.unset).toArray = ls at hl ⊢
  exact body p e s m _ below meth c ls ⟨B.exec, B.bytes, hml, hown, fun w hw => hts w (List.mem_cons_of_mem _ hw), hK, hZ⟩ hsz B.returns B.notSynchronized hin hP hD0.self va_S.rf (fun q hq => Or.inr (by rw [← hsz]; exact hq)) rfl hl
section RROWS
variable {p : Program} {l : Launch} {e : Env} {R : Room} {s : State} {m : MethodId} {args : Array Value} {below : List Frame} {meth : Method} {c : Code} {H : Heap} {locs : List Loc} {cells slots : Nat} {Q : State → Prop}
variable {cc : ByteArray} {pc nL : Nat} {own : String} {ls : Array Slot} {rest st0 : List Value} {G : GG} {A : Nat → Prop} {H0 : Heap} {lv : List (Nat × Value)} {ws : va_W}
theorem r_newa {x : Int32} {n : Nat} (hC : CX p s m args c cc nL own G A) (hP : va_P G.1 vwCl ws H) (hD : va_D A ws) (hS : va_S A H0 H locs) (hA : ∀ q, H0.size ≤ q → A q) (harr : Cond.arrayClass .int ∈ lw_all) (hn : ¬ x < 0) (hN : x.toNatClampNeg = n) (hb : n * 4 ≤ 536870912) (hR : cells + 1 ≤ R.cells ∧ slots + n ≤ R.slots) (hd : decode cc pc = .ok (.newarray .int, 2))
    (kk : ∀ (q : Nat) (H1 : Heap), va_P G.1 vwCl (ws ++ [(q, .inl (G.2.1, n, .inl (fun _ => (0 : Int32))))]) H1 → va_D A (ws ++ [(q, .inl (G.2.1, n, .inl (fun _ => (0 : Int32))))]) → va_S A H0 H1 locs → W p l e R s m args below meth c H1 locs (cells + 1) (slots + n) Q (F0 m (pc + 2) ls (.ref q :: rest))) : W p l e R s m args below meth c H locs cells slots Q (F0 m pc ls (.int x :: rest)) := by
  refine va_newa (atype := .int) (ty := .int) (a0 := (n, .inl (fun _ => 0))) hC.1 hC.2.1 (hC.2.2.2.2.1 _ harr) rfl hC.2.2.2.2.2.1.1 hP hD hS hA (fun cA => rfl) hn hN hb hR.1 hR.2 hd (fun q cA H1 hK hP hD hS1 => ?_)
  have e1 := (hC.2.2.2.2.2.1.1.2 0 (G.2.1, .int) rfl).2
  have e2 := (hK.2 3 (cA, .int) rfl).2
  have e3 : G.2.1 = cA := Option.some.inj (e1.symm.trans e2)
  subst e3
  exact kk q H1 hP hD hS1
theorem r_cut {w : va_W} {is : List Nat} (hP : va_P G.1 vwCl ws H) (h : is.map (fun i => ws[i]?) = w.map some) : va_P G.1 vwCl w H := by
  intro k q hk
  have h1 : (is.map (fun i => ws[i]?))[k]? = some (some q) := by rw [h, List.getElem?_map, hk]; rfl
  rw [List.getElem?_map] at h1
  cases hi : is[k]? with
  | none => rw [hi] at h1; cases h1
  | some i => rw [hi] at h1; exact hP i q (Option.some.inj h1)
theorem r_callI {S : Type} {w : S → va_W} (hC : CX p s m args c cc nL own G A) (hP : va_P G.1 vwCl ws H) (hD : va_D A ws) (hS : va_S A s.heap H locs) (hA : ∀ q, s.heap.size ≤ q → A q) {wc wr : va_W} (isC isR : List Nat) (h1 : isC.map (fun i => ws[i]?) = wc.map some) (h2 : isR.map (fun i => ws[i]?) = wr.map some) (hnC : va_nd isC = true) (hn : va_nd isR = true) (hdis : ∀ i ∈ isR, i ∉ isC)
    {y : MethodName} {cy : ByteArray} {idx maxL n mc ms : Nat} {rm : Room} {b : Nat} {As : List Value}
    (hM : Met l y (ws_ y cy maxL none) rm (rPc (.ref b :: As) G wc H.size) (rQ w G wc H.size) mc ms (va_A wc H.size))
    (hlk : Cond.methodLink own idx y ∈ lw_all) (hin : Cond.instanceMethod y ∈ lw_all) (hini : Cond.initialized y.cls ∈ lw_all) (hcd : Cond.code y cy maxL none ∈ lw_all) (hnm : y.name = "<init>") (hY : mY R y maxL n rm mc ms) (hAs : As.length = n) (hl : lv_has ls nL lv) (hst : st0 = As.reverse ++ .ref b :: rest) (hrest : (rest.map fun v => v.category).sum ≤ 8)
    (hd : decode cc pc = .ok (.invokespecial idx, 3)) (hf : cells + mc ≤ R.cells ∧ slots + ms ≤ R.slots)
    (kk : ∀ (u : S) (H1 : Heap) (locs1 : List Loc), va_P G.1 vwCl (wr ++ w u) H1 → va_D A (wr ++ w u) → va_S A s.heap H1 locs1 → W p l e R s m args below meth c H1 locs1 (cells + mc) (slots + ms) Q (F0 m (pc + 3) ls rest)) : W p l e R s m args below meth c H locs cells slots Q (F0 m pc ls st0) := by
  have hFc := va_free (wc := wc) hD hS hA isC h1
  refine va_callv (va_runI (As := As) (rest := rest) ⟨hC.1, hC.2.1, hC.2.2.1, hC.2.2.2.1, hC.2.2.2.2.1⟩ hM (cwI n hC.2.2.2.2.1 (lw_good_ws hcd) rfl hY.2.1 hY.2.2.1 (hC.2.2.2.2.1 _ hini) (hC.2.2.2.2.1 _ hlk) (hC.2.2.2.2.1 _ hin) hnm hY.1 hY.2.2.2) ⟨rPc_blind, fun U hU hW => ⟨rfl, by rw [hU], by rw [hU]; exact r_cut hP h1, hC.2.2.2.2.2.1.warm hW, by rw [hU]; exact gZ.go hW.alike hS.2.1 (fun q h => hFc q h) hC.2.2.2.2.2.2, (hD.sub isC hnC h1).weaken (fun _ _ _ _ => trivial)⟩⟩ rfl hAs hl.1 hst (lv_room hrest) hd hf) hS (fun q _ h => hFc q h) hFc (fun u t H1 locs1 ht hvm _ hB hz1 hk1 hS1 => ?_)
  obtain ⟨hP1, hD1⟩ := hB
  rw [ht] at hP1
  obtain ⟨hP2, hD2⟩ := va_join hP hD isC isR h1 h2 hn hdis hk1 hFc hP1 hD1
  exact kk u H1 locs1 hP2 hD2 hS1
theorem r_callIN {S : Type} {w : S → va_W} (hC : CX p s m args c cc nL own G A) (hP : va_P G.1 vwCl ws H) (hD : va_D A ws) (hS : va_S A s.heap H locs) (hA : ∀ q, s.heap.size ≤ q → A q) {wc wr : va_W} (isC isR : List Nat) (h1 : isC.map (fun i => ws[i]?) = wc.map some) (h2 : isR.map (fun i => ws[i]?) = wr.map some) (hnC : va_nd isC = true) (hn : va_nd isR = true) (hdis : ∀ i ∈ isR, i ∉ isC)
    {y : MethodName} {cy : ByteArray} {idx maxL n mc ms : Nat} {rm : Room} {b : Nat} {As : List Value} {host : String}
    (hM : Met l y (ws_ y cy maxL none) rm (rPc (.ref b :: As) G wc H.size) (rQ w G wc H.size) mc ms (va_A wc H.size))
    (hlk : Cond.methodLinkNest own idx y host ∈ lw_tbl) (hin : Cond.instanceMethod y ∈ lw_all) (hini : Cond.initialized y.cls ∈ lw_all) (hcd : Cond.code y cy maxL none ∈ lw_all) (hnm : y.name = "<init>") (hY : mY R y maxL n rm mc ms) (hAs : As.length = n) (hl : lv_has ls nL lv) (hst : st0 = As.reverse ++ .ref b :: rest) (hrest : (rest.map fun v => v.category).sum ≤ 8)
    (hd : decode cc pc = .ok (.invokespecial idx, 3)) (hf : cells + mc ≤ R.cells ∧ slots + ms ≤ R.slots)
    (kk : ∀ (u : S) (H1 : Heap) (locs1 : List Loc), va_P G.1 vwCl (wr ++ w u) H1 → va_D A (wr ++ w u) → va_S A s.heap H1 locs1 → W p l e R s m args below meth c H1 locs1 (cells + mc) (slots + ms) Q (F0 m (pc + 3) ls rest)) : W p l e R s m args below meth c H locs cells slots Q (F0 m pc ls st0) := by
  have hFc := va_free (wc := wc) hD hS hA isC h1
  refine va_callv (va_runIN (As := As) (rest := rest) ⟨hC.1, hC.2.1, hC.2.2.1, hC.2.2.2.1, hC.2.2.2.2.1⟩ hM ⟨va_cnB n hC.2.2.2.2.1 (lw_good_ws hcd) rfl hY.2.1 hY.2.2.1 (hC.2.2.2.2.2.1.2.1 _ hlk rfl) (hC.2.2.2.2.1 _ hini) hY.1 hY.2.2.2, hnm, hC.2.2.2.2.1 _ hin⟩ ⟨rPc_blind, fun U hU hW => ⟨rfl, by rw [hU], by rw [hU]; exact r_cut hP h1, hC.2.2.2.2.2.1.warm hW, by rw [hU]; exact gZ.go hW.alike hS.2.1 (fun q h => hFc q h) hC.2.2.2.2.2.2, (hD.sub isC hnC h1).weaken (fun _ _ _ _ => trivial)⟩⟩ rfl hAs hl.1 hst (lv_room hrest) hd hf) hS (fun q _ h => hFc q h) hFc (fun u t H1 locs1 ht hvm _ hB hz1 hk1 hS1 => ?_)
  obtain ⟨hP1, hD1⟩ := hB
  rw [ht] at hP1
  obtain ⟨hP2, hD2⟩ := va_join hP hD isC isR h1 h2 hn hdis hk1 hFc hP1 hD1
  exact kk u H1 locs1 hP2 hD2 hS1
theorem r_vret {S : Type} {w : S → va_W} {sz : Nat} {ws0 : va_W} (u : S) (hC : CX p s m args c cc nL own G (va_A ws0 sz)) (hr : meth.sig.returnType = none) (hlk : meth.locks = false) (hP : va_P G.1 vwCl (w u) H) (hD : va_D (va_A ws0 sz) (w u)) (hS : va_S (va_A ws0 sz) s.heap H locs) (hd : decode cc pc = .ok (.return_, 1)) :
    W p l e R s m args below meth c H locs cells slots (MQ below (rQ w G ws0 sz) args s cells slots (va_A ws0 sz)) (F0 m pc ls []) :=
  W.vret hC.1 hC.2.1 hr (fun t ht _ => ⟨⟨u, rfl, trivial, by rw [ht]; exact hP, hD⟩, hS.F ht⟩) hS.2.2 hd hlk
end RROWS
