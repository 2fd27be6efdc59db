/-! ArrayList.add and all that it calls -/
def rQe {S : Type} (w : S → va_W) (post : Option Nat → S → Prop) (G : GG) (ws : va_W) (sz : Nat) : Array Value → State → Outcome → State → Prop := va_Qe (fun x => x) post (rB w G ws sz) (va_A ws sz)
def rQi {S : Type} (w : S → va_W) (post : Int32 → S → Prop) (G : GG) (ws : va_W) (sz : Nat) : Array Value → State → Outcome → State → Prop := va_Qi post (rB w G ws sz) (va_A ws sz)
def rPcM (mi : Nat) (av : List Value) (G : GG) (ws : va_W) (sz : Nat) : Array Value → State → Prop := va_Pc av (fun U => (U.heap.size = sz ∧ va_P G.1 vwCl ws U.heap ∧ gK G U ∧ gZ G (va_A ws sz) U U.heap ∧ va_D (fun _ => True) ws) ∧ va_Mi "[Ljava/lang/Object;" mi U)
theorem va_Mi.same9 {C : String} {mi : Nat} {u U : State} (hvm : u.vm = U.vm) (h : va_Mi C mi u) : va_Mi C mi U := va_Mi.moved (by rw [← hvm]; exact Vm.Alike.refl _) h
theorem rPcM_blind {mi : Nat} {av : List Value} {G : GG} {ws : va_W} {sz : Nat} : FrameBlind (rPcM mi av G ws sz) := fun _ U g mk h => ⟨h.1, ⟨h.2.1.1, h.2.1.2.1, h.2.1.2.2.1.calling, gZ.go (Vm.Alike.refl U.vm) (fun _ _ _ => rfl) (fun _ z => z) h.2.1.2.2.2.1, h.2.1.2.2.2.2⟩, va_Mi.same9 (u := U) (U := U.calling g mk _) rfl h.2.2⟩
theorem r_metM {l : Launch} {y : MethodName} {own : String} {cc : ByteArray} {maxL : Nat} {ret : Option FieldType} {rm : Room} {av : List Value} {G : GG} {ws : va_W} {sz mc ms mi : Nat} {Qc : Array Value → State → Outcome → State → Prop}
    (hy : plainName y.cls = true) (hyo : y.cls = own) (hav : (lg_sl av).length ≤ maxL)
    (body : ∀ (p : Program) (e : Env) (s : State) (m : MethodId) (args : Array Value) (below : List Frame) (meth : Method) (c : Code) (ls : Array Slot), CX p s m args c cc maxL own G (va_A ws sz) → s.heap.size = sz → meth.sig.returnType = ret → meth.locks = false → va_Mi "[Ljava/lang/Object;" mi s → va_P G.1 vwCl ws s.heap → va_D (va_A ws sz) ws → va_S (va_A ws sz) s.heap s.heap [] → (∀ q, s.heap.size ≤ q → va_A ws sz q) → lv_has ls maxL (lv_args 0 av) →
      W p l e rm s m args below meth c s.heap [] 0 0 (MQ below Qc args s mc ms (va_A ws sz)) (F0 m 0 ls [])) : Met l y (ws_ y cc maxL ret) rm (rPcM mi av G ws sz) Qc mc ms (va_A ws sz) := by
  refine Met.ofW (cc := cc) (maxL := maxL) (ret := ret) hy rfl ?_
  intro p e s m args below meth c s₁ B hml hv
  obtain ⟨rfl, ⟨hsz, hP, hK, hZ, hD0⟩, hMi⟩ := hv
  have hts := atoms_spec (ws := ws_ y cc maxL ret) B.pre
  have hown : s.vm.findClass own = some m.cls := by rw [← hyo]; exact findClass_of_methodNamed B.named
  have hl := lv_entry av (n := maxL) hav
  rw [lg_entry_eq]
  generalize (lg_sl av ++ List.replicate (maxL - (lg_sl av).length) Slot.unset).toArray = ls at hl ⊢
  exact body p e s m _ below meth c ls ⟨B.exec, B.bytes, hml, hown, fun w hw => hts w (List.mem_cons_of_mem _ hw), hK, hZ⟩ hsz B.returns B.notSynchronized hMi hP hD0.self va_S.rf (fun q hq => Or.inr (by rw [← hsz]; exact hq)) hl
section ADDROWS
variable {p : Program} {l : Launch} {e : Env} {R : Room} {s : State} {m : MethodId} {args : Array Value} {below : List Frame} {meth : Method} {c : Code} {H : Heap} {locs : List Loc} {cells slots : Nat} {Q : State → Prop}
variable {cc : ByteArray} {pc nL : Nat} {own : String} {ls : Array Slot} {rest st0 : List Value} {G : GG} {A : Nat → Prop} {H0 : Heap} {lv : List (Nat × Value)} {ws : va_W} {mc ms : Nat} {a9 : Array Value}
theorem r_free (hD : va_D A ws) (hS : va_S A s.heap H locs) (hA : ∀ q, s.heap.size ≤ q → A q) : ∀ q, va_A ws H.size q → A q := by
  intro q h
  rcases h with ⟨k, e, h⟩ | h
  · exact hD.2 k _ h
  · exact hA q (Nat.le_trans hS.1 h)
theorem r_pre (hC : CX p s m args c cc nL own G A) (hP : va_P G.1 vwCl ws H) (hD : va_D A ws) (hS : va_S A s.heap H locs) (hA : ∀ q, s.heap.size ≤ q → A q) {av : List Value} : ∀ U : State, U.heap = H → s.WarmedH U.vm → rPc av G ws H.size av.toArray U :=
  fun U hU hW => ⟨rfl, by rw [hU], by rw [hU]; exact hP, hC.2.2.2.2.2.1.warm hW, by rw [hU]; exact gZ.go hW.alike hS.2.1 (r_free hD hS hA) hC.2.2.2.2.2.2, hD.weaken (fun _ _ _ _ => trivial)⟩
theorem r_runV (hC : CX p s m args c cc nL own G A) (hP : va_P G.1 vwCl ws H) (hD : va_D A ws) (hS : va_S A s.heap H locs) (hA : ∀ q, s.heap.size ≤ q → A q) {y : MethodName} {cy : ByteArray} {idx maxL n mc ms b q0 ci N : Nat} {ret : Option FieldType} {rm : Room} {C : String} {T : u_T} {fs As : List Value} {Qc : Array Value → State → Outcome → State → Prop}
    (he : ws[q0]? = some (b, .inr (ci, fs))) (hcl : vwCl[ci]? = some (C, T, N))
    (hM : Met l y (ws_ y cy maxL ret) rm (rPc (.ref b :: As) G ws H.size) Qc mc ms (va_A ws H.size))
    (hG : GoodIn lw_all (wsV own idx C y (ws_ y cy maxL ret))) (hyC : y.cls = C) (hY : mY R y maxL n rm mc ms) (hn : As.length = n) (hl : lv_has ls nL lv) (hst : st0 = As.reverse ++ .ref b :: rest) (hrest : (rest.map fun v => v.category).sum ≤ 8)
    (hd : decode cc pc = .ok (.invokevirtual idx, 3)) (hf : cells + mc ≤ R.cells ∧ slots + ms ≤ R.slots) :
    va_Run p l e R s m args below meth c H locs cells slots mc ms (F0 m pc ls st0) rest (Qc (Value.ref b :: As).toArray) (va_A ws H.size) :=
  va_runV (C := C) ⟨hC.1, hC.2.1, hC.2.2.1, hC.2.2.2.1, hC.2.2.2.2.1⟩ hM (cwV n hC.2.2.2.2.1 hG rfl hY.2.1 hY.2.2.1 ⟨hyC, hY.1⟩ hY.2.2.2) ⟨rPc_blind, va_recv hC.2.2.2.2.2.1.1 hP hcl he, r_pre hC hP hD hS hA⟩ rfl hn hl.1 hst (lv_room hrest) hd hf
theorem r_runS (hC : CX p s m args c cc nL own G A) (hP : va_P G.1 vwCl ws H) (hD : va_D A ws) (hS : va_S A s.heap H locs) (hA : ∀ q, s.heap.size ≤ q → A q) {y : MethodName} {cy : ByteArray} {idx maxL n mc ms : Nat} {ret : Option FieldType} {rm : Room} {As : List Value} {Qc : Array Value → State → Outcome → State → Prop}
    (hM : Met l y (ws_ y cy maxL ret) rm (rPc As G ws H.size) Qc mc ms (va_A ws H.size))
    (hG : GoodIn lw_all (va_wsS own idx y (ws_ y cy maxL ret))) (hY : mY R y maxL n rm mc ms) (hn : As.length = n) (hl : lv_has ls nL lv) (hst : st0 = As.reverse ++ rest) (hrest : (rest.map fun v => v.category).sum ≤ 8)
    (hd : decode cc pc = .ok (.invokestatic idx, 3)) (hf : cells + mc ≤ R.cells ∧ slots + ms ≤ R.slots) :
    va_Run p l e R s m args below meth c H locs cells slots mc ms (F0 m pc ls st0) rest (Qc As.toArray) (va_A ws H.size) :=
  va_runS ⟨hC.1, hC.2.1, hC.2.2.1, hC.2.2.2.1, hC.2.2.2.2.1⟩ hM (va_cwS n hC.2.2.2.2.1 hG rfl hY.2.1 hY.2.2.1 hY.1 hY.2.2.2) ⟨rPc_blind, r_pre hC hP hD hS hA⟩ rfl hn hl.1 hst (lv_room hrest) hd hf
theorem r_runSM {mi : Nat} (hMi : va_Mi "[Ljava/lang/Object;" mi s) (hC : CX p s m args c cc nL own G A) (hP : va_P G.1 vwCl ws H) (hD : va_D A ws) (hS : va_S A s.heap H locs) (hA : ∀ q, s.heap.size ≤ q → A q) {y : MethodName} {cy : ByteArray} {idx maxL n mc ms : Nat} {ret : Option FieldType} {rm : Room} {As : List Value} {Qc : Array Value → State → Outcome → State → Prop}
    (hM : Met l y (ws_ y cy maxL ret) rm (rPcM mi As G ws H.size) Qc mc ms (va_A ws H.size))
    (hG : GoodIn lw_all (va_wsS own idx y (ws_ y cy maxL ret))) (hY : mY R y maxL n rm mc ms) (hn : As.length = n) (hl : lv_has ls nL lv) (hst : st0 = As.reverse ++ rest) (hrest : (rest.map fun v => v.category).sum ≤ 8)
    (hd : decode cc pc = .ok (.invokestatic idx, 3)) (hf : cells + mc ≤ R.cells ∧ slots + ms ≤ R.slots) :
    va_Run p l e R s m args below meth c H locs cells slots mc ms (F0 m pc ls st0) rest (Qc As.toArray) (va_A ws H.size) :=
  va_runS ⟨hC.1, hC.2.1, hC.2.2.1, hC.2.2.2.1, hC.2.2.2.2.1⟩ hM (va_cwS n hC.2.2.2.2.1 hG rfl hY.2.1 hY.2.2.1 hY.1 hY.2.2.2) ⟨rPcM_blind, fun U hU hW => ⟨rfl, (r_pre hC hP hD hS hA (av := As) U hU hW).2, va_Mi.moved hW.alike hMi⟩⟩ rfl hn hl.1 hst (lv_room hrest) hd hf
theorem r_calle {S : Type} {w : S → va_W} {post : Option Nat → S → Prop} (hD : va_D A ws) (hS : va_S A s.heap H locs) (hA : ∀ q, s.heap.size ≤ q → A q) (hr : va_Run p l e R s m args below meth c H locs cells slots mc ms (F0 m pc ls st0) rest (rQe w post G ws H.size a9) (va_A ws H.size))
    (kk : ∀ (r : Option Nat) (u : S) (H1 : Heap) (locs1 : List Loc), post r u → va_P G.1 vwCl (w u) H1 → va_D A (w u) → va_S A s.heap H1 locs1 → W p l e R s m args below meth c H1 locs1 (cells + mc) (slots + ms) Q (F0 m (pc + 3) ls (va_re (fun x => x) r :: rest))) : W p l e R s m args below meth c H locs cells slots Q (F0 m pc ls st0) :=
  va_calle hr hS (fun q _ h => r_free hD hS hA q h) (r_free hD hS hA) (fun r u t H1 locs1 ht _ hp hB _ _ hS1 => kk r u H1 locs1 hp (by rw [← ht]; exact hB.1) (hB.2.weaken (fun _ _ _ h => r_free hD hS hA _ h)) hS1)
theorem r_calli {S : Type} {w : S → va_W} {post : Int32 → S → Prop} (hD : va_D A ws) (hS : va_S A s.heap H locs) (hA : ∀ q, s.heap.size ≤ q → A q) (hr : va_Run p l e R s m args below meth c H locs cells slots mc ms (F0 m pc ls st0) rest (rQi w post G ws H.size a9) (va_A ws H.size))
    (kk : ∀ (r : Int32) (u : S) (H1 : Heap) (locs1 : List Loc), post r u → va_P G.1 vwCl (w u) H1 → va_D A (w u) → va_S A s.heap H1 locs1 → W p l e R s m args below meth c H1 locs1 (cells + mc) (slots + ms) Q (F0 m (pc + 3) ls (.int r :: rest))) : W p l e R s m args below meth c H locs cells slots Q (F0 m pc ls st0) :=
  va_calli hr hS (fun q _ h => r_free hD hS hA q h) (r_free hD hS hA) (fun r u t H1 locs1 ht _ hp hB _ _ hS1 => kk r u H1 locs1 hp (by rw [← ht]; exact hB.1) (hB.2.weaken (fun _ _ _ h => r_free hD hS hA _ h)) hS1)
theorem r_callv {S : Type} {w : S → va_W} (hD : va_D A ws) (hS : va_S A s.heap H locs) (hA : ∀ q, s.heap.size ≤ q → A q) (hr : va_Run p l e R s m args below meth c H locs cells slots mc ms (F0 m pc ls st0) rest (rQ w G ws H.size a9) (va_A ws H.size))
    (kk : ∀ (u : S) (H1 : Heap) (locs1 : List Loc), va_P G.1 vwCl (w u) H1 → va_D A (w u) → va_S A s.heap H1 locs1 → W p l e R s m args below meth c H1 locs1 (cells + mc) (slots + ms) Q (F0 m (pc + 3) ls rest)) : W p l e R s m args below meth c H locs cells slots Q (F0 m pc ls st0) :=
  va_callv hr hS (fun q _ h => r_free hD hS hA q h) (r_free hD hS hA) (fun u t H1 locs1 ht _ _ hB _ _ hS1 => kk u H1 locs1 (by rw [← ht]; exact hB.1) (hB.2.weaken (fun _ _ _ h => r_free hD hS hA _ h)) hS1)
/-- a callee of numbers alone: all cells stand -/
theorem r_pure {post : Int32 → VS → Prop} {ad : AD} (hP : va_P G.1 vwCl ws H) (hS : va_S A s.heap H locs) (hA : ∀ q, s.heap.size ≤ q → A q) (hr : va_Run p l e R s m args below meth c H locs cells slots 0 0 (F0 m pc ls st0) rest (mQi post G [] ad H.size a9) (mA [] ad H.size))
    (kk : ∀ (r : Int32) (V1 : VS) (H1 : Heap) (locs1 : List Loc), post r V1 → va_P G.1 vwCl ws H1 → va_S A s.heap H1 locs1 → W p l e R s m args below meth c H1 locs1 cells slots Q (F0 m (pc + 3) ls (.int r :: rest))) : W p l e R s m args below meth c H locs cells slots Q (F0 m pc ls st0) := by
  have hf : ∀ q, mA [] ad H.size q → A q := by
    intro q h
    rcases h with ⟨x, hx, _⟩ | h
    · cases hx
    · exact hA q (Nat.le_trans hS.1 h)
  refine va_calli hr hS (fun q _ h => hf q h) hf (fun r u t H1 locs1 ht _ hp hB _ hk hS1 => kk r u H1 locs1 hp (hP.kept (fun k x hx => hk x.1 ((hP k x hx).lt) ?_)) hS1)
  rintro (⟨z, hz, _⟩ | h)
  · cases hz
  · exact absurd ((hP k x hx).lt) (Nat.not_lt.mpr h)
theorem r_st0 {ad : AD} {V : VS} (hS : va_S A s.heap H locs) (hA : ∀ q, s.heap.size ≤ q → A q) : ST G [] ad V A s.heap H locs :=
  ⟨fun k q hk => (by cases hk), hS, ⟨fun i j x y hx => (by cases hx), fun x hx => (by cases hx)⟩, hA⟩
theorem r_aret {S : Type} {w : S → va_W} {sz : Nat} {ws0 : va_W} {post : Option Nat → S → Prop} {rt : FieldType} (q : Nat) (u : S) (hC : CX p s m args c cc nL own G (va_A ws0 sz)) (hr : meth.sig.returnType = some rt) (hrt : (∃ n, rt = .object n) ∨ ∃ t, rt = .array t) (hlk : meth.locks = false) (hp : post (some q) u) (hP : va_P G.1 vwCl (w u) H) (hD : va_D (va_A ws0 sz) (w u)) (hS : va_S (va_A ws0 sz) s.heap H locs) (hd : decode cc pc = .ok (.areturn, 1)) :
    W p l e R s m args below meth c H locs cells slots (MQ below (rQe w post G ws0 sz) args s cells slots (va_A ws0 sz)) (F0 m pc ls [.ref q]) :=
  W.aret hC.1 hC.2.1 hr hrt (Or.inr ⟨_, rfl⟩) (fun t ht _ => ⟨⟨some q, u, rfl, hp, by rw [ht]; exact hP, hD⟩, hS.F ht⟩) hS.2.2 hd hlk
theorem r_zret {S : Type} {w : S → va_W} {sz : Nat} {ws0 : va_W} {post : Int32 → S → Prop} {v : Int32} (u : S) (hC : CX p s m args c cc nL own G (va_A ws0 sz)) (hr : meth.sig.returnType = some .boolean) (hlk : meth.locks = false) (h01 : v = 0 ∨ v = 1) (hp : post v u) (hP : va_P G.1 vwCl (w u) H) (hD : va_D (va_A ws0 sz) (w u)) (hS : va_S (va_A ws0 sz) s.heap H locs) (hd : decode cc pc = .ok (.ireturn, 1)) :
    W p l e R s m args below meth c H locs cells slots (MQ below (rQi w post G ws0 sz) args s cells slots (va_A ws0 sz)) (F0 m pc ls [.int v]) :=
  W.zret hC.1 hC.2.1 hr (by rcases h01 with rfl | rfl <;> rfl) (fun t ht _ => ⟨⟨v, u, rfl, hp, by rw [ht]; exact hP, hD⟩, hS.F ht⟩) hS.2.2 hd hlk
theorem r_newq {x : Int32} {n idx : Nat} (hC : CX p s m args c cc nL own G A) (hP : va_P G.1 vwCl ws H) (hD : va_D A ws) (hS : va_S A H0 H locs) (hA : ∀ q, H0.size ≤ q → A q) (hlink : Cond.classLink own idx "java/lang/Object" ∈ lw_all) (hn : ¬ x < 0) (hN : x.toNatClampNeg = n) (hb : n * 4 ≤ 536870912) (hR : cells + 1 ≤ R.cells ∧ slots + n ≤ R.slots) (hd : decode cc pc = .ok (.anewarray idx, 3))
    (kk : ∀ (q : Nat) (H1 : Heap), va_P G.1 vwCl (ws ++ [(q, .inl (G.2.2.1, n, .inr (.inr (.inr (.inr (fun _ => none))))))]) H1 → va_D A (ws ++ [(q, .inl (G.2.2.1, n, .inr (.inr (.inr (.inr (fun _ => none))))))]) → va_S A H0 H1 locs → W p l e R s m args below meth c H1 locs (cells + 1) (slots + n) Q (F0 m (pc + 3) ls (.ref q :: rest))) : W p l e R s m args below meth c H locs cells slots Q (F0 m pc ls (.int x :: rest)) := by
  refine va_newq hC.1 hC.2.1 hC.2.2.2.1 (hC.2.2.2.2.1 _ hlink) hC.2.2.2.2.2.1.2.2.2.1 hC.2.2.2.2.2.1.1 hP hD hS hA hn hN hb hR.1 hR.2 hd (fun q cA H1 hK hP hD hS1 => ?_)
  have e1 := va_nmO (nm := "[Ljava/lang/Object;") (hC.2.2.2.2.2.1.1.2 1 (G.2.2.1, .object "java/lang/Object") rfl).2 (by decide)
  have e2 := va_nmO (nm := "[Ljava/lang/Object;") (hK.2 3 (cA, .object "java/lang/Object") rfl).2 (by decide)
  have e3 : G.2.2.1 = cA := Option.some.inj (e1.symm.trans e2)
  subst e3
  exact kk q H1 hP hD hS1
theorem r_recvA {a n q1 : Nat} {f : Nat → Option Nat} (hC : CX p s m args c cc nL own G A) (hP : va_P G.1 vwCl ws H) (h1 : ws[q1]? = some (a, .inl (G.2.2.1, n, .inr (.inr (.inr (.inr (f))))))) : ∃ cell : Cell, H[a]? = some cell ∧ cell.vm.isStatics = false ∧ s.vm.findClass "[Ljava/lang/Object;" = some cell.cls :=
  ⟨_, hP q1 _ h1, rfl, va_nmO (nm := "[Ljava/lang/Object;") (hC.2.2.2.2.2.1.1.2 1 (G.2.2.1, .object "java/lang/Object") rfl).2 (by decide)⟩
end ADDROWS
theorem nI_nneg {n : Nat} (h : n < 2 ^ 31) : ¬ nI n < 0 := fun z => nI_nlt (Nat.zero_le n) h (show nI n < nI 0 from z)
theorem set_app {α : Type} {ws : List α} {x y : α} {k : Nat} {e : α} (h : ws[k]? = some e) : (ws ++ [x]).set k y = ws.set k y ++ [x] := List.set_append_left _ _ (List.getElem?_eq_some_iff.mp h).1
theorem get_app {α : Type} {ws : List α} {x : α} {k : Nat} {e : α} (h : ws[k]? = some e) : (ws ++ [x])[k]? = some e := by rw [List.getElem?_append_left (List.getElem?_eq_some_iff.mp h).1]; exact h
theorem get_last {α : Type} {ws : List α} {x : α} : (ws ++ [x])[ws.length]? = some x := by rw [List.getElem?_append_right (Nat.le_refl _), Nat.sub_self]; rfl
theorem set_last {α : Type} {ws : List α} {x y : α} : (ws ++ [x]).set ws.length y = ws ++ [y] := by rw [List.set_append_right _ _ (Nat.le_refl _), Nat.sub_self]; rfl
theorem get_set {α : Type} {ws : List α} {y : α} {k : Nat} {e : α} (h : ws[k]? = some e) : (ws.set k y)[k]? = some y := by rw [List.getElem?_set_self (List.getElem?_eq_some_iff.mp h).1]
theorem get_setne {α : Type} {ws : List α} {y : α} {k j : Nat} {e : α} (hne : k ≠ j) (h : ws[j]? = some e) : (ws.set k y)[j]? = some e := by rw [List.getElem?_set_ne hne]; exact h
set_option maxHeartbeats 4000000 in
set_option maxRecDepth 100000 in
theorem c_max (l : Launch) (G : GG) (ad : AD) (V : VS) (a b : Int32) (sz : Nat) : Met l yJ9_max_7cf53 (ws_ yJ9_max_7cf53 cJ9_max_7cf53 2 (some .int)) ({ frames := 0, cells := 0, slots := 0, locals := 0 }) (mPc [.int a, .int b] G [] ad V sz) (mQi (fun r V' => (if a < b then b else a) = r ∧ V = V') G [] ad sz) 0 0 (mA [] ad sz) := by
  refine g_metF (own := RJ9) (by decide +kernel) rfl (Nat.le_of_ble_eq_true rfl) ?_
  intro p e s m args below meth c ls hC hsz hr hlk hin hS ha hl
  have hl : lv_has ls 2 [(0, .int a), (1, .int b)] := hl
  refine lv_iload_n hC.1 hC.2.1 dJ9_max_7cf53_0 rfl (lv_at hl 0 rfl) ?_
  refine lv_iload_n hC.1 hC.2.1 dJ9_max_7cf53_1 rfl (lv_at hl 1 rfl) ?_
  refine lv_icmp_lt (tgt := 9) hC.1 hC.2.1 dJ9_max_7cf53_2 (by decide) (fun c1 => ?_) (fun c1 => ?_)
  · refine lv_iload_n hC.1 hC.2.1 dJ9_max_7cf53_9 rfl (lv_at hl 1 rfl) ?_
    exact g_iret hC hr hlk hS ⟨if_pos c1, rfl⟩ dJ9_max_7cf53_10
  · refine lv_iload_n hC.1 hC.2.1 dJ9_max_7cf53_5 rfl (lv_at hl 0 rfl) ?_
    refine lv_goto (tgt := 10) hC.1 hC.2.1 dJ9_max_7cf53_6 (by decide) ?_
    exact g_iret hC hr hlk hS ⟨if_neg c1, rfl⟩ dJ9_max_7cf53_10
set_option maxHeartbeats 4000000 in
set_option maxRecDepth 100000 in
theorem c_min (l : Launch) (G : GG) (ad : AD) (V : VS) (a b : Int32) (sz : Nat) : Met l yJ9_min_7cf53 (ws_ yJ9_min_7cf53 cJ9_min_7cf53 2 (some .int)) ({ frames := 0, cells := 0, slots := 0, locals := 0 }) (mPc [.int a, .int b] G [] ad V sz) (mQi (fun r V' => (if b < a then b else a) = r ∧ V = V') G [] ad sz) 0 0 (mA [] ad sz) := by
  refine g_metF (own := RJ9) (by decide +kernel) rfl (Nat.le_of_ble_eq_true rfl) ?_
  intro p e s m args below meth c ls hC hsz hr hlk hin hS ha hl
  have hl : lv_has ls 2 [(0, .int a), (1, .int b)] := hl
  refine lv_iload_n hC.1 hC.2.1 dJ9_min_7cf53_0 rfl (lv_at hl 0 rfl) ?_
  refine lv_iload_n hC.1 hC.2.1 dJ9_min_7cf53_1 rfl (lv_at hl 1 rfl) ?_
  refine lv_icmp_gt (tgt := 9) hC.1 hC.2.1 dJ9_min_7cf53_2 (by decide) (fun c1 => ?_) (fun c1 => ?_)
  · refine lv_iload_n hC.1 hC.2.1 dJ9_min_7cf53_9 rfl (lv_at hl 1 rfl) ?_
    exact g_iret hC hr hlk hS ⟨if_pos c1, rfl⟩ dJ9_min_7cf53_10
  · refine lv_iload_n hC.1 hC.2.1 dJ9_min_7cf53_5 rfl (lv_at hl 0 rfl) ?_
    refine lv_goto (tgt := 10) hC.1 hC.2.1 dJ9_min_7cf53_6 (by decide) ?_
    exact g_iret hC hr hlk hS ⟨if_neg c1, rfl⟩ dJ9_min_7cf53_10
set_option maxHeartbeats 4000000 in
set_option maxRecDepth 100000 in
theorem c_newLen (l : Launch) (G : GG) (ad : AD) (V : VS) (a b g r : Int32) (h1 : a + (if b < g then g else b) = r) (h2 : 0 < r) (h3 : ¬ (2147483639 : Int32) < r) (sz : Nat) : Met l yJ8_newLength_cabcc (ws_ yJ8_newLength_cabcc cJ8_newLength_cabcc 4 (some .int)) ({ frames := 1, cells := 0, slots := 0, locals := 21 }) (mPc [.int a, .int b, .int g] G [] ad V sz) (mQi (fun r' V' => r = r' ∧ V = V') G [] ad sz) 0 0 (mA [] ad sz) := by
  refine g_met (own := RJ8) (by decide) rfl (Nat.le_of_ble_eq_true rfl) ?_
  intro p e s m args below meth c ls hC hsz hr hlk hin hS ha hl
  have hl : lv_has ls 4 [(0, .int a), (1, .int b), (2, .int g)] := hl
  refine lv_iload_n hC.1 hC.2.1 dJ8_newLength_cabcc_0 rfl (lv_at hl 0 rfl) ?_
  refine lv_iload_n hC.1 hC.2.1 dJ8_newLength_cabcc_1 rfl (lv_at hl 1 rfl) ?_
  refine lv_iload_n hC.1 hC.2.1 dJ8_newLength_cabcc_2 rfl (lv_at hl 2 rfl) ?_
  refine g_calli0 hS (g_runS (n := 2) (rest := [.int a]) (As := [.int b, .int g]) hC hS (c_max l G ad V b g _) (gIS wq_441 wq_442 wq_54 wq_443) ⟨⟨by decide +kernel, by decide +kernel, by decide +kernel⟩, rfl, rfl, Nat.le_of_ble_eq_true rfl, Nat.le_of_ble_eq_true rfl⟩ rfl hl rfl (Nat.le_of_ble_eq_true rfl) dJ8_newLength_cabcc_3 ⟨Nat.zero_le _, Nat.zero_le _⟩) (fun r1 V1 H locs h hS => ?_)
  obtain ⟨rfl, rfl⟩ := h
  refine lv_iadd hC.1 hC.2.1 dJ8_newLength_cabcc_6 ?_
  rw [h1]
  refine lv_istore_n (lv' := [(3, .int r), (0, .int a), (1, .int b), (2, .int g)]) hC.1 hC.2.1 dJ8_newLength_cabcc_7 rfl hl (by decide) rfl (fun ls hl => ?_)
  refine lv_iconst (v := 0) hC.1 hC.2.1 dJ8_newLength_cabcc_8 (by decide) ?_
  refine lv_iload_n hC.1 hC.2.1 dJ8_newLength_cabcc_9 rfl (lv_at hl 0 rfl) ?_
  refine lv_icmp_ge (tgt := 21) hC.1 hC.2.1 dJ8_newLength_cabcc_10 (by decide) (fun c1 => absurd h2 (Int32.not_lt.mpr c1)) (fun c1 => ?_)
  refine lv_iload_n hC.1 hC.2.1 dJ8_newLength_cabcc_13 rfl (lv_at hl 0 rfl) ?_
  refine lv_ldc hC.1 hC.2.1 hC.2.2.2.1 (hC.2.2.2.2.1 _ wq_444) dJ8_newLength_cabcc_14 ?_
  refine lv_icmp_gt (tgt := 21) hC.1 hC.2.1 dJ8_newLength_cabcc_16 (by decide) (fun c2 => absurd c2 h3) (fun c2 => ?_)
  refine lv_iload_n hC.1 hC.2.1 dJ8_newLength_cabcc_19 rfl (lv_at hl 0 rfl) ?_
  exact g_iret hC hr hlk hS ⟨rfl, rfl⟩ dJ8_newLength_cabcc_20
set_option maxHeartbeats 4000000 in
set_option maxRecDepth 100000 in
theorem c_copy3 (l : Launch) (G : GG) (mi : Nat) (q1 a n N ci : Nat) (f : Nat → Option Nat) (ws : va_W) (rc : vw_C) (h1 : ws[q1]? = some (a, .inl (G.2.2.1, n, .inr (.inr (.inr (.inr (f))))))) (hnN : n ≤ N) (hN : N ≤ 33) (hci : vwCl[ci]? = some rc) (hca : Cond.castable rc.1 "java/lang/Object" ∈ lw_tbl) (hel : ∀ i, i < n → ∀ y, f i = some y → ∃ (k : Nat) (vs : List Value), ws[k]? = some (y, (.inr (ci, vs) : va_E))) (sz : Nat) : Met l yJ7_copyOf_6403c (ws_ yJ7_copyOf_6403c cJ7_copyOf_6403c 4 (some (.array (.object "java/lang/Object")))) ({ frames := 1, cells := 1, slots := N, locals := 64 }) (rPcM mi [.ref a, .int (nI N), .ref mi] G ws sz) (rQe (fun q : Nat => ws ++ [(q, .inl (G.2.2.1, N, .inr (.inr (.inr (.inr (va_cpy f (fun _ => none) 0 0 n))))))]) (fun r u => some u = r) G ws sz) 1 N (va_A ws sz) := by
  refine r_metM (own := RJ7) (by decide) rfl (Nat.le_of_ble_eq_true rfl) ?_
  intro p e s m args below meth c ls hC hsz hr hlk hMi hP hD hS hA hl
  have hl : lv_has ls 4 [(0, .ref a), (1, .int (nI N)), (2, .ref mi)] := hl
  have eN : (nI N).toNatClampNeg = N := nI_clamp (by omega)
  have en : (nI n).toNatClampNeg = n := nI_clamp (by omega)
  refine lv_aload_n hC.1 hC.2.1 dJ7_copyOf_6403c_0 rfl (lv_at hl 2 rfl) ?_
  refine va_ldcM hC.1 hC.2.1 hC.2.2.2.1 (hC.2.2.2.2.1 _ wq_473) hMi dJ7_copyOf_6403c_1 ?_
  refine lv_acmp_ne (rx := some mi) (ry := some mi) (tgt := 13) hC.1 hC.2.1 dJ7_copyOf_6403c_3 (by decide) (fun c1 => absurd rfl c1) (fun _ => ?_)
  refine lv_iload_n hC.1 hC.2.1 dJ7_copyOf_6403c_6 rfl (lv_at hl 1 rfl) ?_
  refine r_newq (n := N) hC hP hD hS hA wq_475 (nI_nneg (by omega)) eN (by omega) ⟨Nat.le_refl _, by show 0 + N ≤ N; omega⟩ dJ7_copyOf_6403c_7 (fun q H hP hD hS => ?_)
  refine W.widen (k := 1) (n := N) (by omega) (by omega) ?_
  refine lv_goto (tgt := 24) hC.1 hC.2.1 dJ7_copyOf_6403c_10 (by decide) ?_
  refine lv_astore_n (lv' := [(3, .ref q), (0, .ref a), (1, .int (nI N)), (2, .ref mi)]) hC.1 hC.2.1 dJ7_copyOf_6403c_24 rfl hl (by decide) rfl (fun ls hl => ?_)
  refine lv_aload_n hC.1 hC.2.1 dJ7_copyOf_6403c_25 rfl (lv_at hl 1 rfl) ?_
  refine lv_iconst (v := 0) hC.1 hC.2.1 dJ7_copyOf_6403c_26 (by decide) ?_
  refine lv_aload_n hC.1 hC.2.1 dJ7_copyOf_6403c_27 rfl (lv_at hl 0 rfl) ?_
  refine lv_iconst (v := 0) hC.1 hC.2.1 dJ7_copyOf_6403c_28 (by decide) ?_
  refine lv_aload_n hC.1 hC.2.1 dJ7_copyOf_6403c_29 rfl (lv_at hl 1 rfl) ?_
  refine va_alen hC.1 hC.2.1 hC.2.2.2.2.2.1.1 hP q1 1 (get_app h1) rfl (v := nI n) rfl dJ7_copyOf_6403c_30 ?_
  refine lv_iload_n hC.1 hC.2.1 dJ7_copyOf_6403c_31 rfl (lv_at hl 2 rfl) ?_
  refine r_pure (ad := fun _ _ _ => 0) hP hS hA (g_runS (V := fun _ _ _ _ _ => 0) (n := 2) (rest := [.int 0, .ref q, .int 0, .ref a]) (As := [.int (nI n), .int (nI N)]) hC (r_st0 hS hA) (c_min l G _ _ (nI n) (nI N) _) (gIS wq_476 wq_477 wq_54 wq_478) ⟨⟨by decide +kernel, by decide +kernel, by decide +kernel⟩, rfl, rfl, Nat.le_of_ble_eq_true rfl, Nat.le_of_ble_eq_true rfl⟩ rfl hl rfl (Nat.le_of_ble_eq_true rfl) dJ7_copyOf_6403c_32 ⟨Nat.le_refl _, Nat.le_refl _⟩) (fun r9 V9 H locs h hP hS => ?_)
  obtain ⟨rfl, -⟩ := h
  rw [if_neg (fun z : nI N < nI n => by have := (nI_ltI (by omega) (by omega)).mp z; omega)]
  have hz0 : (0 : Int32).toNatClampNeg = 0 := by decide
  refine va_copyq (C := rc.1) (E0 := "java/lang/Object") (E1 := "java/lang/Object") hC.1 hC.2.1 (hC.2.2.1.trans hl.1.symm) hC.2.2.2.1 (hC.2.2.2.2.1 _ wq_479) (hC.2.2.2.2.1 _ wq_481) (hC.2.2.2.2.1 _ wq_480) (hC.2.2.2.2.1 _ wq_56) hC.2.2.2.2.2.1.1 hP hD hS q1 ws.length 1 1 (get_app h1) get_last rfl rfl (by decide) (by decide) (nI_nneg (by omega)) (by rw [hz0, en]; omega) (by rw [hz0, en]; omega) (fun i hi y hy => ?_) (fun comp c0 g1 g2 => ?_) (Nat.le_of_ble_eq_true rfl) (by show _ ≤ 64; decide +kernel) dJ7_copyOf_6403c_35 (fun H locs hP hD hS => ?_)
  · rw [en] at hi
    rw [hz0, Nat.zero_add] at hy
    obtain ⟨k, vs, hk⟩ := hel i hi y hy
    exact va_recv hC.2.2.2.2.2.1.1 hP hci (get_app hk)
  · obtain ⟨x, z, f1, f2, f3⟩ := Cond.castable_spec (va_Nw.use (A := args) rfl (hC.2.2.2.2.2.1.2.1 _ hca rfl))
    cases f1.symm.trans g2
    cases f2.symm.trans g1
    exact f3
  · rw [set_last, hz0, en] at hP hD
    refine lv_aload_n hC.1 hC.2.1 dJ7_copyOf_6403c_38 rfl (lv_at hl 0 rfl) ?_
    exact r_aret q q hC hr (Or.inr ⟨_, rfl⟩) hlk rfl hP hD hS dJ7_copyOf_6403c_39
set_option maxHeartbeats 4000000 in
set_option maxRecDepth 100000 in
theorem c_copy2 (l : Launch) (G : GG) (q1 a n N ci : Nat) (f : Nat → Option Nat) (ws : va_W) (rc : vw_C) (h1 : ws[q1]? = some (a, .inl (G.2.2.1, n, .inr (.inr (.inr (.inr (f))))))) (hnN : n ≤ N) (hN : N ≤ 33) (hci : vwCl[ci]? = some rc) (hca : Cond.castable rc.1 "java/lang/Object" ∈ lw_tbl) (hel : ∀ i, i < n → ∀ y, f i = some y → ∃ (k : Nat) (vs : List Value), ws[k]? = some (y, (.inr (ci, vs) : va_E))) (sz : Nat) : Met l yJ7_copyOf_1904c (ws_ yJ7_copyOf_1904c cJ7_copyOf_1904c 2 (some (.array (.object "java/lang/Object")))) ({ frames := 2, cells := 1, slots := N, locals := 87 }) (rPc [.ref a, .int (nI N)] G ws sz) (rQe (fun q : Nat => ws ++ [(q, .inl (G.2.2.1, N, .inr (.inr (.inr (.inr (va_cpy f (fun _ => none) 0 0 n))))))]) (fun r u => some u = r) G ws sz) 1 N (va_A ws sz) := by
  refine r_met (own := RJ7) (by decide) rfl (Nat.le_of_ble_eq_true rfl) ?_
  intro p e s m args below meth c ls hC hsz hr hlk hin hP hD hS hA ha hl
  have hl : lv_has ls 2 [(0, .ref a), (1, .int (nI N))] := hl
  obtain ⟨mi, hMi⟩ := hC.2.2.2.2.2.1.2.2.2.2.2.1
  refine lv_aload_n hC.1 hC.2.1 dJ7_copyOf_1904c_0 rfl (lv_at hl 0 rfl) ?_
  refine lv_iload_n hC.1 hC.2.1 dJ7_copyOf_1904c_1 rfl (lv_at hl 1 rfl) ?_
  refine lv_aload_n hC.1 hC.2.1 dJ7_copyOf_1904c_2 rfl (lv_at hl 0 rfl) ?_
  refine va_getC hC.1 hC.2.1 (hC.2.2.1.trans hl.1.symm) hC.2.2.2.1 (hC.2.2.2.2.1 _ wq_451) (va_Dc.use hC.2.2.2.2.2.1.2.2.2.2.1) (hC.2.2.2.2.1 _ wq_1318) (hC.2.2.2.2.1 _ wq_452) (hC.2.2.2.2.1 _ wq_469) hMi (r_recvA hC hP h1) (Nat.le_of_ble_eq_true rfl) (Nat.le_of_ble_eq_true rfl) dJ7_copyOf_1904c_3 ?_
  refine r_calle hD hS hA (r_runSM hMi hC hP hD hS hA (n := 3) (rest := []) (As := [.ref a, .int (nI N), .ref mi]) (c_copy3 l G mi q1 a n N ci f ws rc h1 hnN hN hci hca hel _) (gIS wq_470 wq_471 wq_55 wq_472) ⟨⟨by decide +kernel, by decide +kernel, by decide +kernel⟩, rfl, rfl, Nat.le_of_ble_eq_true rfl, Nat.le_of_ble_eq_true rfl⟩ rfl hl rfl (Nat.le_of_ble_eq_true rfl) dJ7_copyOf_1904c_6 ⟨Nat.le_of_eq (Nat.zero_add _), Nat.le_of_eq (Nat.zero_add _)⟩) (fun r u H locs h hP hD hS => ?_)
  subst h
  refine W.widen (k := 1) (n := N) (by omega) (by omega) ?_
  exact r_aret u u hC hr (Or.inr ⟨_, rfl⟩) hlk rfl hP hD hS dJ7_copyOf_1904c_9
set_option maxHeartbeats 4000000 in
set_option maxRecDepth 100000 in
theorem c_grow1Z (l : Launch) (G : GG) (q0 b : Nat) (m9 : Int32) (ws : va_W) (hq : ws[q0]? = some (b, .inr (0, [.int (m9), .ref G.2.2.2.2, .int (0)]))) (sz : Nat) : Met l yJx4a65c_grow_92f84 (ws_ yJx4a65c_grow_92f84 cJx4a65c_grow_92f84 4 (some (.array (.object "java/lang/Object")))) ({ frames := 1, cells := 1, slots := 10, locals := 64 }) (rPc [.ref b, .int 1] G ws sz) (rQe (fun u : Nat => ws.set q0 (b, .inr (0, [.int (m9), .ref u, .int (0)])) ++ [(u, .inl (G.2.2.1, 10, .inr (.inr (.inr (.inr (fun _ => none))))))]) (fun r u => some u = r) G ws sz) 1 10 (va_A ws sz) := by
  refine r_met (own := RJx4a65c) (by decide) rfl (Nat.le_of_ble_eq_true rfl) ?_
  intro p e s m args below meth c ls hC hsz hr hlk hin hP hD hS hA ha hl
  have hl : lv_has ls 4 [(0, .ref b), (1, .int 1)] := hl
  refine lv_aload_n hC.1 hC.2.1 dJx4a65c_grow_92f84_0 rfl (lv_at hl 0 rfl) ?_
  refine va_get (D := G.1) (ci := 0) (v := .ref G.2.2.2.2) (C := RJx4a65c) (T := TJx4a65c) (N := 3) hC.1 hC.2.1 hC.2.2.2.2.1 ina_Jx4a65c hC.2.2.2.1 hC.2.2.2.2.2.1.1 hP q0 hq rfl 1 (by decide) (hC.2.2.2.2.1 _ wq_94) (fun _ h9 => h9) rfl dJx4a65c_grow_92f84_1 ?_
  refine va_tlen hC.1 hC.2.1 hC.2.2.2.2.2.2.2.2.2 hS (v := 0) rfl dJx4a65c_grow_92f84_4 ?_
  refine lv_istore_n (lv' := [(2, .int 0), (0, .ref b), (1, .int 1)]) hC.1 hC.2.1 dJx4a65c_grow_92f84_5 rfl hl (by decide) rfl (fun ls hl => ?_)
  refine lv_iload_n hC.1 hC.2.1 dJx4a65c_grow_92f84_6 rfl (lv_at hl 0 rfl) ?_
  refine lv_if_gt (tgt := 20) hC.1 hC.2.1 dJx4a65c_grow_92f84_7 (by decide) (fun c1 => absurd c1 (by decide)) (fun _ => ?_)
  refine lv_aload_n hC.1 hC.2.1 dJx4a65c_grow_92f84_10 rfl (lv_at hl 1 rfl) ?_
  refine va_get (D := G.1) (ci := 0) (v := .ref G.2.2.2.2) (C := RJx4a65c) (T := TJx4a65c) (N := 3) hC.1 hC.2.1 hC.2.2.2.2.1 ina_Jx4a65c hC.2.2.2.1 hC.2.2.2.2.2.1.1 hP q0 hq rfl 1 (by decide) (hC.2.2.2.2.1 _ wq_94) (fun _ h9 => h9) rfl dJx4a65c_grow_92f84_11 ?_
  refine va_gets hC.1 hC.2.1 hC.2.2.2.2.2.2.2.2.1 hS hC.2.2.2.1 (hC.2.2.2.2.1 _ wq_92) (fun _ h9 => h9) dJx4a65c_grow_92f84_14 ?_
  refine lv_acmp_eq (rx := some G.2.2.2.2) (ry := some G.2.2.2.2) (tgt := 45) hC.1 hC.2.1 dJx4a65c_grow_92f84_17 (by decide) (fun _ => ?_) (fun c1 => absurd rfl c1)
  refine lv_aload_n hC.1 hC.2.1 dJx4a65c_grow_92f84_45 rfl (lv_at hl 1 rfl) ?_
  refine lv_bipush (v := 10) hC.1 hC.2.1 dJx4a65c_grow_92f84_46 (by decide) ?_
  refine lv_iload_n hC.1 hC.2.1 dJx4a65c_grow_92f84_48 rfl (lv_at hl 2 rfl) ?_
  refine r_pure (ad := fun _ _ _ => 0) hP hS hA (g_runS (V := fun _ _ _ _ _ => 0) (n := 2) (rest := [.ref b]) (As := [.int 10, .int 1]) hC (r_st0 hS hA) (c_max l G _ _ 10 1 _) (gIS wq_482 wq_442 wq_54 wq_443) ⟨⟨by decide +kernel, by decide +kernel, by decide +kernel⟩, rfl, rfl, Nat.le_of_ble_eq_true rfl, Nat.le_of_ble_eq_true rfl⟩ rfl hl rfl (Nat.le_of_ble_eq_true rfl) dJx4a65c_grow_92f84_49 ⟨Nat.le_of_ble_eq_true rfl, Nat.le_of_ble_eq_true rfl⟩) (fun r9 V9 H locs h hP hS => ?_)
  obtain ⟨rfl, -⟩ := h
  refine r_newq (n := 10) hC hP hD hS hA wq_483 (by decide) (by decide) (by decide) ⟨Nat.le_of_ble_eq_true rfl, Nat.le_of_ble_eq_true rfl⟩ dJx4a65c_grow_92f84_52 (fun u H hP hD hS => ?_)
  refine lv_dup_x1 hC.1 hC.2.1 dJx4a65c_grow_92f84_55 rfl rfl ?_
  refine va_put (D := G.1) (ci := 0) (v := .ref u) (ty := .array (.object "java/lang/Object")) (C := RJx4a65c) (T := TJx4a65c) (N := 3) hC.1 hC.2.1 hC.2.2.2.2.1 ina_Jx4a65c tyJx4a65c tyJx4a65c_ok nmJx4a65c hC.2.2.2.1 hC.2.2.2.2.2.1.1 hP hD hS q0 (get_app hq) rfl 1 (by decide) (hC.2.2.2.2.1 _ wq_94) (fun _ h9 => h9) rfl (by decide +kernel) rfl rfl (Nat.le_of_ble_eq_true rfl) dJx4a65c_grow_92f84_56 (fun H locs hP hD hS => ?_)
  rw [set_app hq] at hP hD
  exact r_aret u u hC hr (Or.inr ⟨_, rfl⟩) hlk rfl hP hD hS dJx4a65c_grow_92f84_59
set_option maxHeartbeats 4000000 in
set_option maxRecDepth 100000 in
theorem c_grow1F (l : Launch) (G : GG) (q0 q1 b a n N ci : Nat) (f : Nat → Option Nat) (m9 : Int32) (ws : va_W) (rc : vw_C) (hq : ws[q0]? = some (b, .inr (0, [.int (m9), .ref a, .int (nI n)]))) (h1 : ws[q1]? = some (a, .inl (G.2.2.1, n, .inr (.inr (.inr (.inr (f))))))) (hnN : (n = 10 ∧ N = 15) ∨ (n = 15 ∧ N = 22) ∨ (n = 22 ∧ N = 33)) (hci : vwCl[ci]? = some rc) (hca : Cond.castable rc.1 "java/lang/Object" ∈ lw_tbl) (hel : ∀ i, i < n → ∀ y, f i = some y → ∃ (k : Nat) (vs : List Value), ws[k]? = some (y, (.inr (ci, vs) : va_E))) (sz : Nat) : Met l yJx4a65c_grow_92f84 (ws_ yJx4a65c_grow_92f84 cJx4a65c_grow_92f84 4 (some (.array (.object "java/lang/Object")))) ({ frames := 3, cells := 1, slots := N, locals := 108 }) (rPc [.ref b, .int (nI n + 1)] G ws sz) (rQe (fun u : Nat => ws.set q0 (b, .inr (0, [.int (m9), .ref u, .int (nI n)])) ++ [(u, .inl (G.2.2.1, N, .inr (.inr (.inr (.inr (va_cpy f (fun _ => none) 0 0 n))))))]) (fun r u => some u = r) G ws sz) 1 N (va_A ws sz) := by
  refine r_met (own := RJx4a65c) (by decide) rfl (Nat.le_of_ble_eq_true rfl) ?_
  intro p e s m args below meth c ls hC hsz hr hlk hin hP hD hS hA ha hl
  have hl : lv_has ls 4 [(0, .ref b), (1, .int (nI n + 1))] := hl
  refine lv_aload_n hC.1 hC.2.1 dJx4a65c_grow_92f84_0 rfl (lv_at hl 0 rfl) ?_
  refine va_get (D := G.1) (ci := 0) (v := .ref a) (C := RJx4a65c) (T := TJx4a65c) (N := 3) hC.1 hC.2.1 hC.2.2.2.2.1 ina_Jx4a65c hC.2.2.2.1 hC.2.2.2.2.2.1.1 hP q0 hq rfl 1 (by decide) (hC.2.2.2.2.1 _ wq_94) (fun _ h9 => h9) rfl dJx4a65c_grow_92f84_1 ?_
  refine va_alen hC.1 hC.2.1 hC.2.2.2.2.2.1.1 hP q1 1 h1 rfl (v := nI n) rfl dJx4a65c_grow_92f84_4 ?_
  refine lv_istore_n (lv' := [(2, .int (nI n)), (0, .ref b), (1, .int (nI n + 1))]) hC.1 hC.2.1 dJx4a65c_grow_92f84_5 rfl hl (by decide) rfl (fun ls hl => ?_)
  refine lv_iload_n hC.1 hC.2.1 dJx4a65c_grow_92f84_6 rfl (lv_at hl 0 rfl) ?_
  refine lv_if_gt (tgt := 20) hC.1 hC.2.1 dJx4a65c_grow_92f84_7 (by decide) (fun _ => ?_) (fun c1 => absurd (by rcases hnN with ⟨rfl, rfl⟩ | ⟨rfl, rfl⟩ | ⟨rfl, rfl⟩ <;> decide) c1)
  refine lv_iload_n hC.1 hC.2.1 dJx4a65c_grow_92f84_20 rfl (lv_at hl 0 rfl) ?_
  refine lv_iload_n hC.1 hC.2.1 dJx4a65c_grow_92f84_21 rfl (lv_at hl 2 rfl) ?_
  refine lv_iload_n hC.1 hC.2.1 dJx4a65c_grow_92f84_22 rfl (lv_at hl 0 rfl) ?_
  refine lv_isub hC.1 hC.2.1 dJx4a65c_grow_92f84_23 ?_
  refine lv_iload_n hC.1 hC.2.1 dJx4a65c_grow_92f84_24 rfl (lv_at hl 0 rfl) ?_
  refine lv_iconst (v := 1) hC.1 hC.2.1 dJx4a65c_grow_92f84_25 (by decide) ?_
  refine lv_ishr hC.1 hC.2.1 dJx4a65c_grow_92f84_26 ?_
  refine r_pure (ad := fun _ _ _ => 0) hP hS hA (g_runS (V := fun _ _ _ _ _ => 0) (n := 3) (rest := []) (As := [.int (nI n), .int (nI n + 1 - nI n), .int (nI n >>> ((1 : Int32) &&& 31))]) hC (r_st0 hS hA) (c_newLen l G _ _ (nI n) (nI n + 1 - nI n) (nI n >>> ((1 : Int32) &&& 31)) (nI N) (by rcases hnN with ⟨rfl, rfl⟩ | ⟨rfl, rfl⟩ | ⟨rfl, rfl⟩ <;> decide) (by rcases hnN with ⟨rfl, rfl⟩ | ⟨rfl, rfl⟩ | ⟨rfl, rfl⟩ <;> decide) (by rcases hnN with ⟨rfl, rfl⟩ | ⟨rfl, rfl⟩ | ⟨rfl, rfl⟩ <;> decide) _) (gIS wq_438 wq_439 wq_53 wq_440) ⟨⟨by decide +kernel, by decide +kernel, by decide +kernel⟩, rfl, rfl, Nat.le_of_ble_eq_true rfl, Nat.le_of_ble_eq_true rfl⟩ rfl hl rfl (Nat.le_of_ble_eq_true rfl) dJx4a65c_grow_92f84_27 ⟨Nat.zero_le _, Nat.zero_le _⟩) (fun r9 V9 H locs h hP hS => ?_)
  obtain ⟨rfl, -⟩ := h
  refine lv_istore_n (lv' := [(3, .int (nI N)), (2, .int (nI n)), (0, .ref b), (1, .int (nI n + 1))]) hC.1 hC.2.1 dJx4a65c_grow_92f84_30 rfl hl (by decide) rfl (fun ls hl => ?_)
  refine lv_aload_n hC.1 hC.2.1 dJx4a65c_grow_92f84_31 rfl (lv_at hl 2 rfl) ?_
  refine lv_aload_n hC.1 hC.2.1 dJx4a65c_grow_92f84_32 rfl (lv_at hl 2 rfl) ?_
  refine va_get (D := G.1) (ci := 0) (v := .ref a) (C := RJx4a65c) (T := TJx4a65c) (N := 3) hC.1 hC.2.1 hC.2.2.2.2.1 ina_Jx4a65c hC.2.2.2.1 hC.2.2.2.2.2.1.1 hP q0 hq rfl 1 (by decide) (hC.2.2.2.2.1 _ wq_94) (fun _ h9 => h9) rfl dJx4a65c_grow_92f84_33 ?_
  refine lv_iload_n hC.1 hC.2.1 dJx4a65c_grow_92f84_36 rfl (lv_at hl 0 rfl) ?_
  refine r_calle hD hS hA (r_runS hC hP hD hS hA (n := 2) (rest := [.ref b]) (As := [.ref a, .int (nI N)]) (c_copy2 l G q1 a n N ci f ws rc h1 (by omega) (by omega) hci hca hel _) (gIS wq_448 wq_449 wq_55 wq_450) ⟨⟨by decide +kernel, by decide +kernel, by decide +kernel⟩, rfl, rfl, Nat.le_of_ble_eq_true rfl, Nat.le_of_ble_eq_true rfl⟩ rfl hl rfl (Nat.le_of_ble_eq_true rfl) dJx4a65c_grow_92f84_37 ⟨Nat.le_of_eq (Nat.zero_add _), Nat.le_of_eq (Nat.zero_add _)⟩) (fun r u H locs h hP hD hS => ?_)
  subst h
  refine W.widen (k := 1) (n := N) (by omega) (by omega) ?_
  refine W.eq (g2 := F0 m 40 ls [.ref u, .ref b]) rfl ?_
  refine lv_dup_x1 hC.1 hC.2.1 dJx4a65c_grow_92f84_40 rfl rfl ?_
  refine va_put (D := G.1) (ci := 0) (v := .ref u) (ty := .array (.object "java/lang/Object")) (C := RJx4a65c) (T := TJx4a65c) (N := 3) hC.1 hC.2.1 hC.2.2.2.2.1 ina_Jx4a65c tyJx4a65c tyJx4a65c_ok nmJx4a65c hC.2.2.2.1 hC.2.2.2.2.2.1.1 hP hD hS q0 (get_app hq) rfl 1 (by decide) (hC.2.2.2.2.1 _ wq_94) (fun _ h9 => h9) rfl (by decide +kernel) rfl rfl (Nat.le_of_ble_eq_true rfl) dJx4a65c_grow_92f84_41 (fun H locs hP hD hS => ?_)
  rw [set_app hq] at hP hD
  exact r_aret u u hC hr (Or.inr ⟨_, rfl⟩) hlk rfl hP hD hS dJx4a65c_grow_92f84_44
set_option maxHeartbeats 4000000 in
set_option maxRecDepth 100000 in
theorem c_grow0Z (l : Launch) (G : GG) (q0 b : Nat) (m9 : Int32) (ws : va_W) (hq : ws[q0]? = some (b, .inr (0, [.int (m9), .ref G.2.2.2.2, .int (0)]))) (sz : Nat) : Met l yJx4a65c_grow_d5877 (ws_ yJx4a65c_grow_d5877 cJx4a65c_grow_d5877 1 (some (.array (.object "java/lang/Object")))) ({ frames := 2, cells := 1, slots := 10, locals := 131 }) (rPc [.ref b] G ws sz) (rQe (fun u : Nat => ws.set q0 (b, .inr (0, [.int (m9), .ref u, .int (0)])) ++ [(u, .inl (G.2.2.1, 10, .inr (.inr (.inr (.inr (fun _ => none))))))]) (fun r u => some u = r) G ws sz) 1 10 (va_A ws sz) := by
  refine r_met (own := RJx4a65c) (by decide) rfl (Nat.le_of_ble_eq_true rfl) ?_
  intro p e s m args below meth c ls hC hsz hr hlk hin hP hD hS hA ha hl
  have hl : lv_has ls 1 [(0, .ref b)] := hl
  refine lv_aload_n hC.1 hC.2.1 dJx4a65c_grow_d5877_0 rfl (lv_at hl 0 rfl) ?_
  refine lv_aload_n hC.1 hC.2.1 dJx4a65c_grow_d5877_1 rfl (lv_at hl 0 rfl) ?_
  refine va_get (D := G.1) (ci := 0) (v := .int (0)) (C := RJx4a65c) (T := TJx4a65c) (N := 3) hC.1 hC.2.1 hC.2.2.2.2.1 ina_Jx4a65c hC.2.2.2.1 hC.2.2.2.2.2.1.1 hP q0 hq rfl 2 (by decide) (hC.2.2.2.2.1 _ wq_95) (fun _ h9 => h9) rfl dJx4a65c_grow_d5877_2 ?_
  refine lv_iconst (v := 1) hC.1 hC.2.1 dJx4a65c_grow_d5877_5 (by decide) ?_
  refine lv_iadd hC.1 hC.2.1 dJx4a65c_grow_d5877_6 ?_
  refine r_calle hD hS hA (r_runV hC hP hD hS hA (q0 := q0) (n := 1) (rest := []) (As := [.int (1)]) (C := RJx4a65c) (T := TJx4a65c) (N := 3) hq rfl (c_grow1Z l G q0 b m9 ws hq _) (gI wq_434 wq_436 wq_9 wq_43 wq_437) rfl ⟨⟨by decide +kernel, by decide +kernel, by decide +kernel⟩, rfl, rfl, Nat.le_of_ble_eq_true rfl, Nat.le_of_ble_eq_true rfl⟩ rfl hl rfl (Nat.le_of_ble_eq_true rfl) dJx4a65c_grow_d5877_7 ⟨Nat.le_of_eq (Nat.zero_add _), Nat.le_of_eq (Nat.zero_add _)⟩) (fun r u H locs h hP hD hS => ?_)
  subst h
  refine W.widen (k := 1) (n := 10) (Nat.le_of_eq (Nat.zero_add _)) (Nat.le_of_eq (Nat.zero_add _)) ?_
  exact r_aret u u hC hr (Or.inr ⟨_, rfl⟩) hlk rfl hP hD hS dJx4a65c_grow_d5877_10
set_option maxHeartbeats 4000000 in
set_option maxRecDepth 100000 in
theorem c_grow0F (l : Launch) (G : GG) (q0 q1 b a n N ci : Nat) (f : Nat → Option Nat) (m9 : Int32) (ws : va_W) (rc : vw_C) (hq : ws[q0]? = some (b, .inr (0, [.int (m9), .ref a, .int (nI n)]))) (h1 : ws[q1]? = some (a, .inl (G.2.2.1, n, .inr (.inr (.inr (.inr (f))))))) (hnN : (n = 10 ∧ N = 15) ∨ (n = 15 ∧ N = 22) ∨ (n = 22 ∧ N = 33)) (hci : vwCl[ci]? = some rc) (hca : Cond.castable rc.1 "java/lang/Object" ∈ lw_tbl) (hel : ∀ i, i < n → ∀ y, f i = some y → ∃ (k : Nat) (vs : List Value), ws[k]? = some (y, (.inr (ci, vs) : va_E))) (sz : Nat) : Met l yJx4a65c_grow_d5877 (ws_ yJx4a65c_grow_d5877 cJx4a65c_grow_d5877 1 (some (.array (.object "java/lang/Object")))) ({ frames := 4, cells := 1, slots := N, locals := 131 }) (rPc [.ref b] G ws sz) (rQe (fun u : Nat => ws.set q0 (b, .inr (0, [.int (m9), .ref u, .int (nI n)])) ++ [(u, .inl (G.2.2.1, N, .inr (.inr (.inr (.inr (va_cpy f (fun _ => none) 0 0 n))))))]) (fun r u => some u = r) G ws sz) 1 N (va_A ws sz) := by
  refine r_met (own := RJx4a65c) (by decide) rfl (Nat.le_of_ble_eq_true rfl) ?_
  intro p e s m args below meth c ls hC hsz hr hlk hin hP hD hS hA ha hl
  have hl : lv_has ls 1 [(0, .ref b)] := hl
  refine lv_aload_n hC.1 hC.2.1 dJx4a65c_grow_d5877_0 rfl (lv_at hl 0 rfl) ?_
  refine lv_aload_n hC.1 hC.2.1 dJx4a65c_grow_d5877_1 rfl (lv_at hl 0 rfl) ?_
  refine va_get (D := G.1) (ci := 0) (v := .int (nI n)) (C := RJx4a65c) (T := TJx4a65c) (N := 3) hC.1 hC.2.1 hC.2.2.2.2.1 ina_Jx4a65c hC.2.2.2.1 hC.2.2.2.2.2.1.1 hP q0 hq rfl 2 (by decide) (hC.2.2.2.2.1 _ wq_95) (fun _ h9 => h9) rfl dJx4a65c_grow_d5877_2 ?_
  refine lv_iconst (v := 1) hC.1 hC.2.1 dJx4a65c_grow_d5877_5 (by decide) ?_
  refine lv_iadd hC.1 hC.2.1 dJx4a65c_grow_d5877_6 ?_
  refine r_calle hD hS hA (r_runV hC hP hD hS hA (q0 := q0) (n := 1) (rest := []) (As := [.int (nI n + 1)]) (C := RJx4a65c) (T := TJx4a65c) (N := 3) hq rfl (c_grow1F l G q0 q1 b a n N ci f m9 ws rc hq h1 hnN hci hca hel _) (gI wq_434 wq_436 wq_9 wq_43 wq_437) rfl ⟨⟨by decide +kernel, by decide +kernel, by decide +kernel⟩, rfl, rfl, Nat.le_of_ble_eq_true rfl, Nat.le_of_ble_eq_true rfl⟩ rfl hl rfl (Nat.le_of_ble_eq_true rfl) dJx4a65c_grow_d5877_7 ⟨Nat.le_of_eq (Nat.zero_add _), Nat.le_of_eq (Nat.zero_add _)⟩) (fun r u H locs h hP hD hS => ?_)
  subst h
  refine W.widen (k := 1) (n := N) (Nat.le_of_eq (Nat.zero_add _)) (Nat.le_of_eq (Nat.zero_add _)) ?_
  exact r_aret u u hC hr (Or.inr ⟨_, rfl⟩) hlk rfl hP hD hS dJx4a65c_grow_d5877_10
set_option maxHeartbeats 4000000 in
set_option maxRecDepth 100000 in
theorem c_add2Z (l : Launch) (G : GG) (q0 b : Nat) (m9 : Int32) (ws : va_W) (hq : ws[q0]? = some (b, .inr (0, [.int (m9), .ref G.2.2.2.2, .int (0)]))) (qe v ce : Nat) (ve : List Value) (re : vw_C) (hqe : ws[qe]? = some (v, .inr (ce, ve))) (hce : vwCl[ce]? = some re) (hcb : Cond.castable re.1 "java/lang/Object" ∈ lw_tbl) (hne : qe ≠ q0) (sz : Nat) : Met l yJx4a65c_add_72be8 (ws_ yJx4a65c_add_72be8 cJx4a65c_add_72be8 4 none) ({ frames := 3, cells := 1, slots := 10, locals := 151 }) (rPc [.ref b, .ref v, .ref G.2.2.2.2, .int (0)] G ws sz) (rQ (fun u : Nat => ws.set q0 (b, .inr (0, [.int (m9), .ref u, .int (1)])) ++ [(u, .inl (G.2.2.1, 10, .inr (.inr (.inr (.inr (va_up (fun _ => none) 0 (some v)))))))]) G ws sz) 1 10 (va_A ws sz) := by
  refine r_met (own := RJx4a65c) (by decide) rfl (Nat.le_of_ble_eq_true rfl) ?_
  intro p e s m args below meth c ls hC hsz hr hlk hin hP hD hS hA ha hl
  have hl : lv_has ls 4 [(0, .ref b), (1, .ref v), (2, .ref G.2.2.2.2), (3, .int (0))] := hl
  refine lv_iload_n hC.1 hC.2.1 dJx4a65c_add_72be8_0 rfl (lv_at hl 3 rfl) ?_
  refine lv_aload_n hC.1 hC.2.1 dJx4a65c_add_72be8_1 rfl (lv_at hl 2 rfl) ?_
  refine va_tlen hC.1 hC.2.1 hC.2.2.2.2.2.2.2.2.2 hS (v := 0) rfl dJx4a65c_add_72be8_2 ?_
  refine lv_icmp_ne (tgt := 11) hC.1 hC.2.1 dJx4a65c_add_72be8_3 (by decide) (fun c1 => absurd rfl c1) (fun _ => ?_)
  refine lv_aload_n hC.1 hC.2.1 dJx4a65c_add_72be8_6 rfl (lv_at hl 0 rfl) ?_
  refine r_calle hD hS hA (r_runV hC hP hD hS hA (q0 := q0) (n := 0) (rest := []) (As := []) (C := RJx4a65c) (T := TJx4a65c) (N := 3) hq rfl (c_grow0Z l G q0 b m9 ws hq _) (gI wq_430 wq_432 wq_8 wq_43 wq_433) rfl ⟨⟨by decide +kernel, by decide +kernel, by decide +kernel⟩, rfl, rfl, Nat.le_of_ble_eq_true rfl, Nat.le_of_ble_eq_true rfl⟩ rfl hl rfl (Nat.le_of_ble_eq_true rfl) dJx4a65c_add_72be8_7 ⟨Nat.le_of_eq (Nat.zero_add _), Nat.le_of_eq (Nat.zero_add _)⟩) (fun r u H locs h hP hD hS => ?_)
  subst h
  refine W.widen (k := 1) (n := 10) (Nat.le_of_eq (Nat.zero_add _)) (Nat.le_of_eq (Nat.zero_add _)) ?_
  refine W.eq (g2 := F0 m 10 ls [.ref u]) rfl ?_
  refine lv_astore_n (lv' := [(2, .ref u), (0, .ref b), (1, .ref v), (3, .int (0))]) hC.1 hC.2.1 dJx4a65c_add_72be8_10 rfl hl (by decide) rfl (fun ls hl => ?_)
  refine lv_aload_n hC.1 hC.2.1 dJx4a65c_add_72be8_11 rfl (lv_at hl 0 rfl) ?_
  refine lv_iload_n hC.1 hC.2.1 dJx4a65c_add_72be8_12 rfl (lv_at hl 3 rfl) ?_
  refine lv_aload_n hC.1 hC.2.1 dJx4a65c_add_72be8_13 rfl (lv_at hl 2 rfl) ?_
  have hlen : (ws.set q0 (b, .inr (0, [.int (m9), .ref u, .int (0)]))).length = ws.length := List.length_set ..
  refine va_astqO hC.1 hC.2.1 hC.2.2.2.2.2.1.1 hP hD hS (ws.set q0 (b, .inr (0, [.int (m9), .ref u, .int (0)]))).length 1 qe ce (n := 10) get_last rfl (hC.2.2.2.2.2.1.2.1 _ hcb rfl) (get_app (get_setne hne.symm hqe)) hce (by unfold vp_in; decide) dJx4a65c_add_72be8_14 (fun H locs hP hD hS => ?_)
  rw [set_last] at hP hD
  rw [show (0 : Int32).toNatClampNeg = 0 by decide] at hP hD
  refine lv_aload_n hC.1 hC.2.1 dJx4a65c_add_72be8_15 rfl (lv_at hl 1 rfl) ?_
  refine lv_iload_n hC.1 hC.2.1 dJx4a65c_add_72be8_16 rfl (lv_at hl 3 rfl) ?_
  refine lv_iconst (v := 1) hC.1 hC.2.1 dJx4a65c_add_72be8_17 (by decide) ?_
  refine lv_iadd hC.1 hC.2.1 dJx4a65c_add_72be8_18 ?_
  refine va_put (D := G.1) (ci := 0) (v := .int (0 + 1)) (ty := .int) (C := RJx4a65c) (T := TJx4a65c) (N := 3) hC.1 hC.2.1 hC.2.2.2.2.1 ina_Jx4a65c tyJx4a65c tyJx4a65c_ok nmJx4a65c hC.2.2.2.1 hC.2.2.2.2.2.1.1 hP hD hS q0 (get_app (get_set hq)) rfl 2 (by decide) (hC.2.2.2.2.1 _ wq_95) (fun _ h9 => h9) rfl (by decide +kernel) rfl rfl (Nat.le_of_ble_eq_true rfl) dJx4a65c_add_72be8_19 (fun H locs hP hD hS => ?_)
  rw [set_app (get_set hq), List.set_set] at hP hD
  
  
  exact r_vret u hC hr hlk hP hD hS dJx4a65c_add_72be8_22
set_option maxHeartbeats 4000000 in
set_option maxRecDepth 100000 in
theorem c_add2F (l : Launch) (G : GG) (q0 q1 b a n N ci : Nat) (f : Nat → Option Nat) (m9 : Int32) (ws : va_W) (rc : vw_C) (hq : ws[q0]? = some (b, .inr (0, [.int (m9), .ref a, .int (nI n)]))) (h1 : ws[q1]? = some (a, .inl (G.2.2.1, n, .inr (.inr (.inr (.inr (f))))))) (hnN : (n = 10 ∧ N = 15) ∨ (n = 15 ∧ N = 22) ∨ (n = 22 ∧ N = 33)) (hci : vwCl[ci]? = some rc) (hca : Cond.castable rc.1 "java/lang/Object" ∈ lw_tbl) (hel : ∀ i, i < n → ∀ y, f i = some y → ∃ (k : Nat) (vs : List Value), ws[k]? = some (y, (.inr (ci, vs) : va_E))) (qe v ce : Nat) (ve : List Value) (re : vw_C) (hqe : ws[qe]? = some (v, .inr (ce, ve))) (hce : vwCl[ce]? = some re) (hcb : Cond.castable re.1 "java/lang/Object" ∈ lw_tbl) (hne : qe ≠ q0) (sz : Nat) : Met l yJx4a65c_add_72be8 (ws_ yJx4a65c_add_72be8 cJx4a65c_add_72be8 4 none) ({ frames := 5, cells := 1, slots := N, locals := 151 }) (rPc [.ref b, .ref v, .ref a, .int (nI n)] G ws sz) (rQ (fun u : Nat => ws.set q0 (b, .inr (0, [.int (m9), .ref u, .int (nI (n + 1))])) ++ [(u, .inl (G.2.2.1, N, .inr (.inr (.inr (.inr (va_up (va_cpy f (fun _ => none) 0 0 n) n (some v)))))))]) G ws sz) 1 N (va_A ws sz) := by
  refine r_met (own := RJx4a65c) (by decide) rfl (Nat.le_of_ble_eq_true rfl) ?_
  intro p e s m args below meth c ls hC hsz hr hlk hin hP hD hS hA ha hl
  have hl : lv_has ls 4 [(0, .ref b), (1, .ref v), (2, .ref a), (3, .int (nI n))] := hl
  refine lv_iload_n hC.1 hC.2.1 dJx4a65c_add_72be8_0 rfl (lv_at hl 3 rfl) ?_
  refine lv_aload_n hC.1 hC.2.1 dJx4a65c_add_72be8_1 rfl (lv_at hl 2 rfl) ?_
  refine va_alen hC.1 hC.2.1 hC.2.2.2.2.2.1.1 hP q1 1 h1 rfl (v := nI n) rfl dJx4a65c_add_72be8_2 ?_
  refine lv_icmp_ne (tgt := 11) hC.1 hC.2.1 dJx4a65c_add_72be8_3 (by decide) (fun c1 => absurd rfl c1) (fun _ => ?_)
  refine lv_aload_n hC.1 hC.2.1 dJx4a65c_add_72be8_6 rfl (lv_at hl 0 rfl) ?_
  refine r_calle hD hS hA (r_runV hC hP hD hS hA (q0 := q0) (n := 0) (rest := []) (As := []) (C := RJx4a65c) (T := TJx4a65c) (N := 3) hq rfl (c_grow0F l G q0 q1 b a n N ci f m9 ws rc hq h1 hnN hci hca hel _) (gI wq_430 wq_432 wq_8 wq_43 wq_433) rfl ⟨⟨by decide +kernel, by decide +kernel, by decide +kernel⟩, rfl, rfl, Nat.le_of_ble_eq_true rfl, Nat.le_of_ble_eq_true rfl⟩ rfl hl rfl (Nat.le_of_ble_eq_true rfl) dJx4a65c_add_72be8_7 ⟨Nat.le_of_eq (Nat.zero_add _), Nat.le_of_eq (Nat.zero_add _)⟩) (fun r u H locs h hP hD hS => ?_)
  subst h
  refine W.widen (k := 1) (n := N) (Nat.le_of_eq (Nat.zero_add _)) (Nat.le_of_eq (Nat.zero_add _)) ?_
  refine W.eq (g2 := F0 m 10 ls [.ref u]) rfl ?_
  refine lv_astore_n (lv' := [(2, .ref u), (0, .ref b), (1, .ref v), (3, .int (nI n))]) hC.1 hC.2.1 dJx4a65c_add_72be8_10 rfl hl (by decide) rfl (fun ls hl => ?_)
  refine lv_aload_n hC.1 hC.2.1 dJx4a65c_add_72be8_11 rfl (lv_at hl 0 rfl) ?_
  refine lv_iload_n hC.1 hC.2.1 dJx4a65c_add_72be8_12 rfl (lv_at hl 3 rfl) ?_
  refine lv_aload_n hC.1 hC.2.1 dJx4a65c_add_72be8_13 rfl (lv_at hl 2 rfl) ?_
  have hlen : (ws.set q0 (b, .inr (0, [.int (m9), .ref u, .int (nI n)]))).length = ws.length := List.length_set ..
  refine va_astqO hC.1 hC.2.1 hC.2.2.2.2.2.1.1 hP hD hS (ws.set q0 (b, .inr (0, [.int (m9), .ref u, .int (nI n)]))).length 1 qe ce (n := N) get_last rfl (hC.2.2.2.2.2.1.2.1 _ hcb rfl) (get_app (get_setne hne.symm hqe)) hce (by rintro (z | z); exact nI_nneg (by omega) z; rw [nI_clamp (by omega)] at z; omega) dJx4a65c_add_72be8_14 (fun H locs hP hD hS => ?_)
  rw [set_last] at hP hD
  rw [nI_clamp (n := n) (by omega)] at hP hD
  refine lv_aload_n hC.1 hC.2.1 dJx4a65c_add_72be8_15 rfl (lv_at hl 1 rfl) ?_
  refine lv_iload_n hC.1 hC.2.1 dJx4a65c_add_72be8_16 rfl (lv_at hl 3 rfl) ?_
  refine lv_iconst (v := 1) hC.1 hC.2.1 dJx4a65c_add_72be8_17 (by decide) ?_
  refine lv_iadd hC.1 hC.2.1 dJx4a65c_add_72be8_18 ?_
  refine va_put (D := G.1) (ci := 0) (v := .int (nI n + 1)) (ty := .int) (C := RJx4a65c) (T := TJx4a65c) (N := 3) hC.1 hC.2.1 hC.2.2.2.2.1 ina_Jx4a65c tyJx4a65c tyJx4a65c_ok nmJx4a65c hC.2.2.2.1 hC.2.2.2.2.2.1.1 hP hD hS q0 (get_app (get_set hq)) rfl 2 (by decide) (hC.2.2.2.2.1 _ wq_95) (fun _ h9 => h9) rfl (by decide +kernel) rfl rfl (Nat.le_of_ble_eq_true rfl) dJx4a65c_add_72be8_19 (fun H locs hP hD hS => ?_)
  rw [set_app (get_set hq), List.set_set] at hP hD
  have e9 : nI n + 1 = nI (n + 1) := nI_add n 1
  rw [e9] at hP hD
  exact r_vret u hC hr hlk hP hD hS dJx4a65c_add_72be8_22
set_option maxHeartbeats 4000000 in
set_option maxRecDepth 100000 in
theorem c_add2R (l : Launch) (G : GG) (q0 q1 b a n N : Nat) (f : Nat → Option Nat) (m9 : Int32) (ws : va_W) (hq : ws[q0]? = some (b, .inr (0, [.int (m9), .ref a, .int (nI n)]))) (h1 : ws[q1]? = some (a, .inl (G.2.2.1, N, .inr (.inr (.inr (.inr (f))))))) (hnN : n < N) (hN33 : N ≤ 33) (hq01 : q1 ≠ q0) (qe v ce : Nat) (ve : List Value) (re : vw_C) (hqe : ws[qe]? = some (v, .inr (ce, ve))) (hce : vwCl[ce]? = some re) (hcb : Cond.castable re.1 "java/lang/Object" ∈ lw_tbl) (hne : qe ≠ q0) (sz : Nat) : Met l yJx4a65c_add_72be8 (ws_ yJx4a65c_add_72be8 cJx4a65c_add_72be8 4 none) ({ frames := 0, cells := 0, slots := 0, locals := 0 }) (rPc [.ref b, .ref v, .ref a, .int (nI n)] G ws sz) (rQ (fun _ : Unit => (ws.set q1 (a, .inl (G.2.2.1, N, .inr (.inr (.inr (.inr (va_up f n (some v)))))))).set q0 (b, .inr (0, [.int (m9), .ref a, .int (nI (n + 1))]))) G ws sz) 0 0 (va_A ws sz) := by
  refine r_met (own := RJx4a65c) (by decide) rfl (Nat.le_of_ble_eq_true rfl) ?_
  intro p e s m args below meth c ls hC hsz hr hlk hin hP hD hS hA ha hl
  have hl : lv_has ls 4 [(0, .ref b), (1, .ref v), (2, .ref a), (3, .int (nI n))] := hl
  refine lv_iload_n hC.1 hC.2.1 dJx4a65c_add_72be8_0 rfl (lv_at hl 3 rfl) ?_
  refine lv_aload_n hC.1 hC.2.1 dJx4a65c_add_72be8_1 rfl (lv_at hl 2 rfl) ?_
  refine va_alen hC.1 hC.2.1 hC.2.2.2.2.2.1.1 hP q1 1 h1 rfl (v := nI N) rfl dJx4a65c_add_72be8_2 ?_
  refine lv_icmp_ne (tgt := 11) hC.1 hC.2.1 dJx4a65c_add_72be8_3 (by decide) (fun _ => ?_) (fun c1 => absurd ((nI_eq (by omega) (by omega)).mp c1) (by omega))
  refine lv_aload_n hC.1 hC.2.1 dJx4a65c_add_72be8_11 rfl (lv_at hl 2 rfl) ?_
  refine lv_iload_n hC.1 hC.2.1 dJx4a65c_add_72be8_12 rfl (lv_at hl 3 rfl) ?_
  refine lv_aload_n hC.1 hC.2.1 dJx4a65c_add_72be8_13 rfl (lv_at hl 1 rfl) ?_
  refine va_astqO hC.1 hC.2.1 hC.2.2.2.2.2.1.1 hP hD hS q1 1 qe ce h1 rfl (hC.2.2.2.2.2.1.2.1 _ hcb rfl) hqe hce (by rintro (z | z); exact nI_nneg (by omega) z; rw [nI_clamp (by omega)] at z; omega) dJx4a65c_add_72be8_14 (fun H locs hP hD hS => ?_)
  rw [nI_clamp (n := n) (by omega)] at hP hD
  refine lv_aload_n hC.1 hC.2.1 dJx4a65c_add_72be8_15 rfl (lv_at hl 0 rfl) ?_
  refine lv_iload_n hC.1 hC.2.1 dJx4a65c_add_72be8_16 rfl (lv_at hl 3 rfl) ?_
  refine lv_iconst (v := 1) hC.1 hC.2.1 dJx4a65c_add_72be8_17 (by decide) ?_
  refine lv_iadd hC.1 hC.2.1 dJx4a65c_add_72be8_18 ?_
  refine va_put (D := G.1) (ci := 0) (v := .int (nI n + 1)) (ty := .int) (C := RJx4a65c) (T := TJx4a65c) (N := 3) hC.1 hC.2.1 hC.2.2.2.2.1 ina_Jx4a65c tyJx4a65c tyJx4a65c_ok nmJx4a65c hC.2.2.2.1 hC.2.2.2.2.2.1.1 hP hD hS q0 (get_setne hq01 hq) rfl 2 (by decide) (hC.2.2.2.2.1 _ wq_95) (fun _ h9 => h9) rfl (by decide +kernel) rfl rfl (Nat.le_of_ble_eq_true rfl) dJx4a65c_add_72be8_19 (fun H locs hP hD hS => ?_)
  have e9 : nI n + 1 = nI (n + 1) := nI_add n 1
  rw [e9] at hP hD
  exact r_vret () hC hr hlk hP hD hS dJx4a65c_add_72be8_22
set_option maxHeartbeats 4000000 in
set_option maxRecDepth 100000 in
theorem c_addZ (l : Launch) (G : GG) (q0 b : Nat) (m9 : Int32) (ws : va_W) (hq : ws[q0]? = some (b, .inr (0, [.int (m9), .ref G.2.2.2.2, .int (0)]))) (qe v ce : Nat) (ve : List Value) (re : vw_C) (hqe : ws[qe]? = some (v, .inr (ce, ve))) (hce : vwCl[ce]? = some re) (hcb : Cond.castable re.1 "java/lang/Object" ∈ lw_tbl) (hne : qe ≠ q0) (sz : Nat) : Met l yJx4a65c_add_9ea2d (ws_ yJx4a65c_add_9ea2d cJx4a65c_add_9ea2d 2 (some .boolean)) ({ frames := 4, cells := 1, slots := 10, locals := 174 }) (rPc [.ref b, .ref v] G ws sz) (rQi (fun u : Nat => ws.set q0 (b, .inr (0, [.int (m9 + 1), .ref u, .int (1)])) ++ [(u, .inl (G.2.2.1, 10, .inr (.inr (.inr (.inr (va_up (fun _ => none) 0 (some v)))))))]) (fun r _ => 1 = r) G ws sz) 1 10 (va_A ws sz) := by
  refine r_met (own := RJx4a65c) (by decide) rfl (Nat.le_of_ble_eq_true rfl) ?_
  intro p e s m args below meth c ls hC hsz hr hlk hin hP hD hS hA ha hl
  have hl : lv_has ls 2 [(0, .ref b), (1, .ref v)] := hl
  refine lv_aload_n hC.1 hC.2.1 dJx4a65c_add_9ea2d_0 rfl (lv_at hl 0 rfl) ?_
  refine lv_dup hC.1 hC.2.1 dJx4a65c_add_9ea2d_1 rfl ?_
  refine va_get (D := G.1) (ci := 0) (v := .int m9) (C := RJx4a65c) (T := TJx4a65c) (N := 3) hC.1 hC.2.1 hC.2.2.2.2.1 ina_Jx4a65c hC.2.2.2.1 hC.2.2.2.2.2.1.1 hP q0 hq rfl 0 (by decide) (hC.2.2.2.2.1 _ wq_97) (u_same (hC.2.2.2.2.1 _ (lw_mem wq_98 rfl))) rfl dJx4a65c_add_9ea2d_2 ?_
  refine lv_iconst (v := 1) hC.1 hC.2.1 dJx4a65c_add_9ea2d_5 (by decide) ?_
  refine lv_iadd hC.1 hC.2.1 dJx4a65c_add_9ea2d_6 ?_
  refine va_put (D := G.1) (ci := 0) (v := .int (m9 + 1)) (ty := .int) (C := RJx4a65c) (T := TJx4a65c) (N := 3) hC.1 hC.2.1 hC.2.2.2.2.1 ina_Jx4a65c tyJx4a65c tyJx4a65c_ok nmJx4a65c hC.2.2.2.1 hC.2.2.2.2.2.1.1 hP hD hS q0 hq rfl 0 (by decide) (hC.2.2.2.2.1 _ wq_97) (u_same (hC.2.2.2.2.1 _ (lw_mem wq_98 rfl))) rfl (by decide +kernel) rfl rfl (Nat.le_of_ble_eq_true rfl) dJx4a65c_add_9ea2d_7 (fun H locs hP hD hS => ?_)
  refine lv_aload_n hC.1 hC.2.1 dJx4a65c_add_9ea2d_10 rfl (lv_at hl 0 rfl) ?_
  refine lv_aload_n hC.1 hC.2.1 dJx4a65c_add_9ea2d_11 rfl (lv_at hl 1 rfl) ?_
  refine lv_aload_n hC.1 hC.2.1 dJx4a65c_add_9ea2d_12 rfl (lv_at hl 0 rfl) ?_
  refine va_get (D := G.1) (ci := 0) (v := .ref G.2.2.2.2) (C := RJx4a65c) (T := TJx4a65c) (N := 3) hC.1 hC.2.1 hC.2.2.2.2.1 ina_Jx4a65c hC.2.2.2.1 hC.2.2.2.2.2.1.1 hP q0 (get_set hq) rfl 1 (by decide) (hC.2.2.2.2.1 _ wq_94) (fun _ h9 => h9) rfl dJx4a65c_add_9ea2d_13 ?_
  refine lv_aload_n hC.1 hC.2.1 dJx4a65c_add_9ea2d_16 rfl (lv_at hl 0 rfl) ?_
  refine va_get (D := G.1) (ci := 0) (v := .int (0)) (C := RJx4a65c) (T := TJx4a65c) (N := 3) hC.1 hC.2.1 hC.2.2.2.2.1 ina_Jx4a65c hC.2.2.2.1 hC.2.2.2.2.2.1.1 hP q0 (get_set hq) rfl 2 (by decide) (hC.2.2.2.2.1 _ wq_95) (fun _ h9 => h9) rfl dJx4a65c_add_9ea2d_17 ?_
  refine r_callv hD hS hA (r_runV hC hP hD hS hA (q0 := q0) (n := 3) (rest := []) (As := [.ref v, .ref G.2.2.2.2, .int (0)]) (C := RJx4a65c) (T := TJx4a65c) (N := 3) (get_set hq) rfl (c_add2Z l G q0 b (m9 + 1) (ws.set q0 (b, .inr (0, [.int (m9 + 1), .ref G.2.2.2.2, .int (0)]))) (get_set hq) qe v ce ve re (get_setne hne.symm hqe) hce hcb hne _) (gI wq_426 wq_428 wq_7 wq_43 wq_429) rfl ⟨⟨by decide +kernel, by decide +kernel, by decide +kernel⟩, rfl, rfl, Nat.le_of_ble_eq_true rfl, Nat.le_of_ble_eq_true rfl⟩ rfl hl rfl (Nat.le_of_ble_eq_true rfl) dJx4a65c_add_9ea2d_20 ⟨Nat.le_of_eq (Nat.zero_add _), Nat.le_of_eq (Nat.zero_add _)⟩) (fun u H locs hP hD hS => ?_)
  refine W.widen (k := 1) (n := 10) (Nat.le_of_eq (Nat.zero_add _)) (Nat.le_of_eq (Nat.zero_add _)) ?_
  rw [List.set_set] at hP hD
  refine lv_iconst (v := 1) hC.1 hC.2.1 dJx4a65c_add_9ea2d_23 (by decide) ?_
  exact r_zret u hC hr hlk (Or.inr rfl) rfl hP hD hS dJx4a65c_add_9ea2d_24
set_option maxHeartbeats 4000000 in
set_option maxRecDepth 100000 in
theorem c_addF (l : Launch) (G : GG) (q0 q1 b a n N ci : Nat) (f : Nat → Option Nat) (m9 : Int32) (ws : va_W) (rc : vw_C) (hq : ws[q0]? = some (b, .inr (0, [.int (m9), .ref a, .int (nI n)]))) (h1 : ws[q1]? = some (a, .inl (G.2.2.1, n, .inr (.inr (.inr (.inr (f))))))) (hnN : (n = 10 ∧ N = 15) ∨ (n = 15 ∧ N = 22) ∨ (n = 22 ∧ N = 33)) (hci : vwCl[ci]? = some rc) (hca : Cond.castable rc.1 "java/lang/Object" ∈ lw_tbl) (hel : ∀ i, i < n → ∀ y, f i = some y → ∃ (k : Nat) (vs : List Value), ws[k]? = some (y, (.inr (ci, vs) : va_E))) (qe v ce : Nat) (ve : List Value) (re : vw_C) (hqe : ws[qe]? = some (v, .inr (ce, ve))) (hce : vwCl[ce]? = some re) (hcb : Cond.castable re.1 "java/lang/Object" ∈ lw_tbl) (hne : qe ≠ q0) (hq01 : q1 ≠ q0) (hci0 : ci ≠ 0) (sz : Nat) : Met l yJx4a65c_add_9ea2d (ws_ yJx4a65c_add_9ea2d cJx4a65c_add_9ea2d 2 (some .boolean)) ({ frames := 6, cells := 1, slots := N, locals := 174 }) (rPc [.ref b, .ref v] G ws sz) (rQi (fun u : Nat => ws.set q0 (b, .inr (0, [.int (m9 + 1), .ref u, .int (nI (n + 1))])) ++ [(u, .inl (G.2.2.1, N, .inr (.inr (.inr (.inr (va_up (va_cpy f (fun _ => none) 0 0 n) n (some v)))))))]) (fun r _ => 1 = r) G ws sz) 1 N (va_A ws sz) := by
  refine r_met (own := RJx4a65c) (by decide) rfl (Nat.le_of_ble_eq_true rfl) ?_
  intro p e s m args below meth c ls hC hsz hr hlk hin hP hD hS hA ha hl
  have hl : lv_has ls 2 [(0, .ref b), (1, .ref v)] := hl
  refine lv_aload_n hC.1 hC.2.1 dJx4a65c_add_9ea2d_0 rfl (lv_at hl 0 rfl) ?_
  refine lv_dup hC.1 hC.2.1 dJx4a65c_add_9ea2d_1 rfl ?_
  refine va_get (D := G.1) (ci := 0) (v := .int m9) (C := RJx4a65c) (T := TJx4a65c) (N := 3) hC.1 hC.2.1 hC.2.2.2.2.1 ina_Jx4a65c hC.2.2.2.1 hC.2.2.2.2.2.1.1 hP q0 hq rfl 0 (by decide) (hC.2.2.2.2.1 _ wq_97) (u_same (hC.2.2.2.2.1 _ (lw_mem wq_98 rfl))) rfl dJx4a65c_add_9ea2d_2 ?_
  refine lv_iconst (v := 1) hC.1 hC.2.1 dJx4a65c_add_9ea2d_5 (by decide) ?_
  refine lv_iadd hC.1 hC.2.1 dJx4a65c_add_9ea2d_6 ?_
  refine va_put (D := G.1) (ci := 0) (v := .int (m9 + 1)) (ty := .int) (C := RJx4a65c) (T := TJx4a65c) (N := 3) hC.1 hC.2.1 hC.2.2.2.2.1 ina_Jx4a65c tyJx4a65c tyJx4a65c_ok nmJx4a65c hC.2.2.2.1 hC.2.2.2.2.2.1.1 hP hD hS q0 hq rfl 0 (by decide) (hC.2.2.2.2.1 _ wq_97) (u_same (hC.2.2.2.2.1 _ (lw_mem wq_98 rfl))) rfl (by decide +kernel) rfl rfl (Nat.le_of_ble_eq_true rfl) dJx4a65c_add_9ea2d_7 (fun H locs hP hD hS => ?_)
  refine lv_aload_n hC.1 hC.2.1 dJx4a65c_add_9ea2d_10 rfl (lv_at hl 0 rfl) ?_
  refine lv_aload_n hC.1 hC.2.1 dJx4a65c_add_9ea2d_11 rfl (lv_at hl 1 rfl) ?_
  refine lv_aload_n hC.1 hC.2.1 dJx4a65c_add_9ea2d_12 rfl (lv_at hl 0 rfl) ?_
  refine va_get (D := G.1) (ci := 0) (v := .ref a) (C := RJx4a65c) (T := TJx4a65c) (N := 3) hC.1 hC.2.1 hC.2.2.2.2.1 ina_Jx4a65c hC.2.2.2.1 hC.2.2.2.2.2.1.1 hP q0 (get_set hq) rfl 1 (by decide) (hC.2.2.2.2.1 _ wq_94) (fun _ h9 => h9) rfl dJx4a65c_add_9ea2d_13 ?_
  refine lv_aload_n hC.1 hC.2.1 dJx4a65c_add_9ea2d_16 rfl (lv_at hl 0 rfl) ?_
  refine va_get (D := G.1) (ci := 0) (v := .int (nI n)) (C := RJx4a65c) (T := TJx4a65c) (N := 3) hC.1 hC.2.1 hC.2.2.2.2.1 ina_Jx4a65c hC.2.2.2.1 hC.2.2.2.2.2.1.1 hP q0 (get_set hq) rfl 2 (by decide) (hC.2.2.2.2.1 _ wq_95) (fun _ h9 => h9) rfl dJx4a65c_add_9ea2d_17 ?_
  have hel9 : ∀ i, i < n → ∀ y, f i = some y → ∃ (k : Nat) (vs : List Value), (ws.set q0 (b, .inr (0, [.int (m9 + 1), .ref a, .int (nI n)])))[k]? = some (y, (.inr (ci, vs) : va_E)) := by
    intro i hi y hy
    obtain ⟨k, vs, hk⟩ := hel i hi y hy
    refine ⟨k, vs, get_setne (fun z => hci0 ?_) hk⟩
    subst z
    have h9 := hq.symm.trans hk
    injection h9 with h9
    injection h9 with _ h9
    injection h9 with h9
    injection h9 with h9 _
    exact h9.symm
  refine r_callv hD hS hA (r_runV hC hP hD hS hA (q0 := q0) (n := 3) (rest := []) (As := [.ref v, .ref a, .int (nI n)]) (C := RJx4a65c) (T := TJx4a65c) (N := 3) (get_set hq) rfl (c_add2F l G q0 q1 b a n N ci f (m9 + 1) (ws.set q0 (b, .inr (0, [.int (m9 + 1), .ref a, .int (nI n)]))) rc (get_set hq) (get_setne hq01.symm h1) hnN hci hca hel9 qe v ce ve re (get_setne hne.symm hqe) hce hcb hne _) (gI wq_426 wq_428 wq_7 wq_43 wq_429) rfl ⟨⟨by decide +kernel, by decide +kernel, by decide +kernel⟩, rfl, rfl, Nat.le_of_ble_eq_true rfl, Nat.le_of_ble_eq_true rfl⟩ rfl hl rfl (Nat.le_of_ble_eq_true rfl) dJx4a65c_add_9ea2d_20 ⟨Nat.le_of_eq (Nat.zero_add _), Nat.le_of_eq (Nat.zero_add _)⟩) (fun u H locs hP hD hS => ?_)
  refine W.widen (k := 1) (n := N) (Nat.le_of_eq (Nat.zero_add _)) (Nat.le_of_eq (Nat.zero_add _)) ?_
  rw [List.set_set] at hP hD
  refine lv_iconst (v := 1) hC.1 hC.2.1 dJx4a65c_add_9ea2d_23 (by decide) ?_
  exact r_zret u hC hr hlk (Or.inr rfl) rfl hP hD hS dJx4a65c_add_9ea2d_24
set_option maxHeartbeats 4000000 in
set_option maxRecDepth 100000 in
theorem c_addR (l : Launch) (G : GG) (q0 q1 b a n N : Nat) (f : Nat → Option Nat) (m9 : Int32) (ws : va_W) (hq : ws[q0]? = some (b, .inr (0, [.int (m9), .ref a, .int (nI n)]))) (h1 : ws[q1]? = some (a, .inl (G.2.2.1, N, .inr (.inr (.inr (.inr (f))))))) (hnN : n < N) (hN33 : N ≤ 33) (hq01 : q1 ≠ q0) (qe v ce : Nat) (ve : List Value) (re : vw_C) (hqe : ws[qe]? = some (v, .inr (ce, ve))) (hce : vwCl[ce]? = some re) (hcb : Cond.castable re.1 "java/lang/Object" ∈ lw_tbl) (hne : qe ≠ q0) (sz : Nat) : Met l yJx4a65c_add_9ea2d (ws_ yJx4a65c_add_9ea2d cJx4a65c_add_9ea2d 2 (some .boolean)) ({ frames := 1, cells := 0, slots := 0, locals := 174 }) (rPc [.ref b, .ref v] G ws sz) (rQi (fun _ : Unit => (ws.set q1 (a, .inl (G.2.2.1, N, .inr (.inr (.inr (.inr (va_up f n (some v)))))))).set q0 (b, .inr (0, [.int (m9 + 1), .ref a, .int (nI (n + 1))]))) (fun r _ => 1 = r) G ws sz) 0 0 (va_A ws sz) := by
  refine r_met (own := RJx4a65c) (by decide) rfl (Nat.le_of_ble_eq_true rfl) ?_
  intro p e s m args below meth c ls hC hsz hr hlk hin hP hD hS hA ha hl
  have hl : lv_has ls 2 [(0, .ref b), (1, .ref v)] := hl
  refine lv_aload_n hC.1 hC.2.1 dJx4a65c_add_9ea2d_0 rfl (lv_at hl 0 rfl) ?_
  refine lv_dup hC.1 hC.2.1 dJx4a65c_add_9ea2d_1 rfl ?_
  refine va_get (D := G.1) (ci := 0) (v := .int m9) (C := RJx4a65c) (T := TJx4a65c) (N := 3) hC.1 hC.2.1 hC.2.2.2.2.1 ina_Jx4a65c hC.2.2.2.1 hC.2.2.2.2.2.1.1 hP q0 hq rfl 0 (by decide) (hC.2.2.2.2.1 _ wq_97) (u_same (hC.2.2.2.2.1 _ (lw_mem wq_98 rfl))) rfl dJx4a65c_add_9ea2d_2 ?_
  refine lv_iconst (v := 1) hC.1 hC.2.1 dJx4a65c_add_9ea2d_5 (by decide) ?_
  refine lv_iadd hC.1 hC.2.1 dJx4a65c_add_9ea2d_6 ?_
  refine va_put (D := G.1) (ci := 0) (v := .int (m9 + 1)) (ty := .int) (C := RJx4a65c) (T := TJx4a65c) (N := 3) hC.1 hC.2.1 hC.2.2.2.2.1 ina_Jx4a65c tyJx4a65c tyJx4a65c_ok nmJx4a65c hC.2.2.2.1 hC.2.2.2.2.2.1.1 hP hD hS q0 hq rfl 0 (by decide) (hC.2.2.2.2.1 _ wq_97) (u_same (hC.2.2.2.2.1 _ (lw_mem wq_98 rfl))) rfl (by decide +kernel) rfl rfl (Nat.le_of_ble_eq_true rfl) dJx4a65c_add_9ea2d_7 (fun H locs hP hD hS => ?_)
  refine lv_aload_n hC.1 hC.2.1 dJx4a65c_add_9ea2d_10 rfl (lv_at hl 0 rfl) ?_
  refine lv_aload_n hC.1 hC.2.1 dJx4a65c_add_9ea2d_11 rfl (lv_at hl 1 rfl) ?_
  refine lv_aload_n hC.1 hC.2.1 dJx4a65c_add_9ea2d_12 rfl (lv_at hl 0 rfl) ?_
  refine va_get (D := G.1) (ci := 0) (v := .ref a) (C := RJx4a65c) (T := TJx4a65c) (N := 3) hC.1 hC.2.1 hC.2.2.2.2.1 ina_Jx4a65c hC.2.2.2.1 hC.2.2.2.2.2.1.1 hP q0 (get_set hq) rfl 1 (by decide) (hC.2.2.2.2.1 _ wq_94) (fun _ h9 => h9) rfl dJx4a65c_add_9ea2d_13 ?_
  refine lv_aload_n hC.1 hC.2.1 dJx4a65c_add_9ea2d_16 rfl (lv_at hl 0 rfl) ?_
  refine va_get (D := G.1) (ci := 0) (v := .int (nI n)) (C := RJx4a65c) (T := TJx4a65c) (N := 3) hC.1 hC.2.1 hC.2.2.2.2.1 ina_Jx4a65c hC.2.2.2.1 hC.2.2.2.2.2.1.1 hP q0 (get_set hq) rfl 2 (by decide) (hC.2.2.2.2.1 _ wq_95) (fun _ h9 => h9) rfl dJx4a65c_add_9ea2d_17 ?_
  refine r_callv hD hS hA (r_runV hC hP hD hS hA (q0 := q0) (n := 3) (rest := []) (As := [.ref v, .ref a, .int (nI n)]) (C := RJx4a65c) (T := TJx4a65c) (N := 3) (get_set hq) rfl (c_add2R l G q0 q1 b a n N f (m9 + 1) (ws.set q0 (b, .inr (0, [.int (m9 + 1), .ref a, .int (nI n)]))) (get_set hq) (get_setne hq01.symm h1) hnN hN33 hq01 qe v ce ve re (get_setne hne.symm hqe) hce hcb hne _) (gI wq_426 wq_428 wq_7 wq_43 wq_429) rfl ⟨⟨by decide +kernel, by decide +kernel, by decide +kernel⟩, rfl, rfl, Nat.le_of_ble_eq_true rfl, Nat.le_of_ble_eq_true rfl⟩ rfl hl rfl (Nat.le_of_ble_eq_true rfl) dJx4a65c_add_9ea2d_20 ⟨Nat.le_of_eq (Nat.zero_add _), Nat.le_of_eq (Nat.zero_add _)⟩) (fun u H locs hP hD hS => ?_)
  refine W.widen (k := 0) (n := 0) (Nat.le_of_eq (Nat.zero_add _)) (Nat.le_of_eq (Nat.zero_add _)) ?_
  rw [List.set_comm _ _ hq01.symm, List.set_set] at hP hD
  refine lv_iconst (v := 1) hC.1 hC.2.1 dJx4a65c_add_9ea2d_23 (by decide) ?_
  exact r_zret u hC hr hlk (Or.inr rfl) rfl hP hD hS dJx4a65c_add_9ea2d_24
