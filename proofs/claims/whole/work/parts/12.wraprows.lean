/-! the law's methods that catch -/
abbrev wsH (y : MethodName) (cc : ByteArray) (maxL : Nat) (ret : Option FieldType) (hh : List (Nat × Nat × Nat × Nat)) : List Cond := Cond.codeWith y cc maxL ret hh :: lw_all
theorem g_metW {l : Launch} {y : MethodName} {own : String} {cc : ByteArray} {maxL : Nat} {ret : Option FieldType} {hh : List (Nat × Nat × Nat × Nat)} {rm : Room} {av : List Value} {G : GG} {ks : List KY} {ad : AD} {V : VS} {sz mc ms : Nat} {Qc : Array Value → State → Outcome → State → Prop}
    (hy : plainName y.cls = true) (hyo : y.cls = own) (hav : (lg_sl av).length ≤ maxL)
    (body : ∀ (p : Program) (e : Env) (s : State) (m : MethodId) (args : Array Value) (below : List Frame) (meth : Method) (c : Code) (ls : Array Slot), CX p s m args c cc maxL own G (mA ks ad sz) → s.heap.size = sz → meth.sig.returnType = ret → meth.locks = false → ST G ks ad V (mA ks ad sz) s.heap s.heap [] → lv_has ls maxL (lv_args 0 av) → c.exceptionTable.toList = tableOf hh →
      W p l e rm s m args below meth c s.heap [] 0 0 (MQ below Qc args s mc ms (mA ks ad sz)) (F0 m 0 ls [])) : Met l y (wsH y cc maxL ret hh) rm (mPc av G ks ad V sz) Qc mc ms (mA ks ad sz) := by
  refine va_MetW (cc := cc) (maxL := maxL) (ret := ret) (hh := hh) hy rfl ?_
  intro p e s m args below meth c s₁ B hml hv
  obtain ⟨rfl, hsz, hP, hK, hZ, hD0⟩ := hv
  have hts := atoms_spec (ws := wsH y cc maxL ret hh) B.pre
  have hown : s.vm.findClass own = some m.cls := by rw [← hyo]; exact findClass_of_methodNamed B.named
  have hl := lv_entry av (n := maxL) hav
  have htab := vx_table (x := y) B (hts _ List.mem_cons_self)
  rw [lg_entry_eq]
  generalize (lg_sl av ++ List.replicate (maxL - (lg_sl av).length) Slot.unset).toArray = ls at hl ⊢
  exact body p e s m _ below meth c ls ⟨B.exec, B.bytes, hml, hown, fun w hw => hts w (List.mem_cons_of_mem _ hw), hK, hZ⟩ hsz B.returns B.notSynchronized ⟨hP, va_S.rf, hD0.mA, fun q hq => Or.inr (by rw [← hsz]; exact hq)⟩ hl htab
theorem arr1 {c : ClassId} {f g : Nat → Int64} (h : f 0 = g 0) : vp_cell c (1, .inr (.inl f)) = vp_cell c (1, .inr (.inl g)) := by
  show arrV c 1 (fun j => .long (f j)) = arrV c 1 (fun j => .long (g j))
  unfold arrV
  congr 1
  congr 1
  funext j
  have hj : j.val = 0 := by have := j.isLt; omega
  show Value.long (f j.val) = Value.long (g j.val)
  rw [hj, h]
section WROWS
variable {p : Program} {l : Launch} {e : Env} {R : Room} {s : State} {m : MethodId} {args : Array Value} {below : List Frame} {meth : Method} {c : Code} {H : Heap} {locs : List Loc} {cells slots : Nat} {Q : State → Prop}
variable {cc : ByteArray} {pc nL : Nat} {own : String} {ls : Array Slot} {rest st0 : List Value} {G : GG} {ks : List KY} {ad : AD} {V : VS} {A : Nat → Prop} {H0 : Heap} {lv : List (Nat × Value)} {mc ms : Nat} {a : Array Value}
theorem ce_out {G : GG} {ad : AD} {V : VS} : cE G ad V 34 0 0 = .inl (G.2.2.2.1, 1, .inr (.inl (fun _ => (V 34 0 0 0 0).toInt64))) := rfl
theorem g_out {r : Int32} (hC : CX p s m args c cc nL own G A) (hS : ST G ks ad V A H0 H locs) (hk : (34, 0, 0) ∈ ks) (hd : decode cc pc = .ok (.lastore, 1))
    (kk : ∀ (H1 : Heap) (locs1 : List Loc), ST G ks ad (vup V 34 0 0 0 0 r) A H0 H1 locs1 → W p l e R s m args below meth c H1 locs1 cells slots Q (F0 m (pc + 1) ls rest)) : W p l e R s m args below meth c H locs cells slots Q (F0 m pc ls (.long r.toInt64 :: .int 0 :: .ref (ad 34 0 0) :: rest)) := by
  obtain ⟨hP, hS1, hD, hA⟩ := hS
  obtain ⟨q0, hq⟩ := List.getElem?_of_mem hk
  have he := at_pic (G := G) (ad := ad) (V := V) hq
  rw [ce_out] at he
  refine va_last hC.1 hC.2.1 hC.2.2.2.2.2.1.1 hP hD.D hS1 q0 2 he rfl (by unfold vp_in; decide) hd (fun H1 locs1 hP1 _ hS2 => ?_)
  have hP2 : va_P G.1 vwCl ((pic G ks ad V).set q0 (ad 34 0 0, .inl (G.2.2.2.1, 1, .inr (.inl (fun _ => r.toInt64))))) H1 := by
    intro k q hkq
    by_cases e : k = q0
    · subst e
      have h1 := hP1 k _ (get_set he)
      have h2 := (get_set (y := ((ad 34 0 0, .inl (G.2.2.2.1, 1, .inr (.inl (fun _ => r.toInt64)))) : Nat × va_E)) he).symm.trans hkq
      cases h2
      have h1 : H1[ad 34 0 0]? = some (vp_cell G.2.2.2.1 (1, .inr (.inl (vp_updL (fun _ => (V 34 0 0 0 0).toInt64) (0 : Int32).toNatClampNeg r.toInt64)))) := h1
      show H1[ad 34 0 0]? = some (vp_cell G.2.2.2.1 (1, .inr (.inl (fun _ => r.toInt64))))
      exact h1.trans (congrArg some (arr1 rfl))
    · rw [get_setne2 (fun z => e z.symm)] at hkq
      exact hP1 k q (by rw [get_setne2 (fun z => e z.symm)]; exact hkq)
  rw [pic_set hD hq (e := .inl (G.2.2.2.1, 1, .inr (.inl (fun _ => r.toInt64)))) (V' := vup V 34 0 0 0 0 r) (by rw [ce_out, vup_eq]) (fun k' w' i' h => ce_other (by decide) h)] at hP2
  exact kk H1 locs1 ⟨hP2, hS2, hD, hA⟩
theorem g_wcall {post : Int32 → VS → Prop} {xp : Nat → VS → Prop} (hS : ST G ks ad V A s.heap H locs) (hr : vx_Run p l e R s m args below meth c H locs cells slots mc ms (F0 m pc ls st0) rest (mQi post G ks ad H.size a) (mX xp G ks ad H.size) (mA ks ad H.size))
    (kx : ∀ (n : Nat) (V1 : VS) (H1 : Heap) (locs1 : List Loc) (ce : Cell) (q9 : Addr), xp n V1 → ST G ks ad V1 A s.heap H1 locs1 → H1[q9]? = some ce → ce.vm = .none → s.vm.findClass (exN n) = some ce.cls → vx_W p l e R s m args below meth c H1 locs1 (cells + mc) (slots + ms) Q (F0 m pc ls rest) q9)
    (kk : ∀ (r : Int32) (V1 : VS) (H1 : Heap) (locs1 : List Loc), post r V1 → ST G ks ad V1 A s.heap H1 locs1 → W p l e R s m args below meth c H1 locs1 (cells + mc) (slots + ms) Q (F0 m (pc + 3) ls (.int r :: rest))) : W p l e R s m args below meth c H locs cells slots Q (F0 m pc ls st0) :=
  vx_calli hr hS.2.1 (fun q _ h => hS.callA q h) hS.callA (fun q _ h => hS.callA q h) (fun E ce q9 u t H1 locs1 ht _ hp hB _ _ hS1 hcell hv hcl => kx u.1 u.2 H1 locs1 ce q9 hp ⟨by rw [← ht]; exact hB.2, hS1, hS.2.2.1, hS.2.2.2⟩ hcell hv (by rw [← hB.1]; exact hcl)) (fun r u t H1 locs1 ht _ hp hB _ _ hS1 => kk r u H1 locs1 hp ⟨by rw [← ht]; exact hB, hS1, hS.2.2.1, hS.2.2.2⟩)
theorem Dj.wk {A B : Nat → Prop} {ks : List KY} {ad : AD} (h : Dj A ks ad) (hAB : ∀ q, A q → B q) : Dj B ks ad := ⟨h.1, fun x hx => hAB _ (h.2 x hx)⟩
theorem g_wcallN {post : Int32 → List KY × VS → Prop} {xp : Nat → VS → Prop} (hS : ST G ks ad V A s.heap H locs) (hr : vx_Run p l e R s m args below meth c H locs cells slots mc ms (F0 m pc ls st0) rest (mQn post G ks ad H.size a) (mX xp G ks ad H.size) (mA ks ad H.size))
    (kx : ∀ (n : Nat) (V1 : VS) (H1 : Heap) (locs1 : List Loc) (ce : Cell) (q9 : Addr), xp n V1 → ST G ks ad V1 A s.heap H1 locs1 → H1[q9]? = some ce → ce.vm = .none → s.vm.findClass (exN n) = some ce.cls → vx_W p l e R s m args below meth c H1 locs1 (cells + mc) (slots + ms) Q (F0 m pc ls rest) q9)
    (kk : ∀ (r : Int32) (ks1 : List KY) (ad1 : AD) (V1 : VS) (H1 : Heap) (locs1 : List Loc), post r (ks1, V1) → (∀ k w i : Nat, k ≠ 3 → (k < 4 ∨ 9 < k) → ad1 k w i = ad k w i) → ST G ks1 ad1 V1 A s.heap H1 locs1 → W p l e R s m args below meth c H1 locs1 (cells + mc) (slots + ms) Q (F0 m (pc + 3) ls (.int r :: rest))) : W p l e R s m args below meth c H locs cells slots Q (F0 m pc ls st0) :=
  vx_calli hr hS.2.1 (fun q _ h => hS.callA q h) hS.callA (fun q _ h => hS.callA q h) (fun E ce q9 u t H1 locs1 ht _ hp hB _ _ hS1 hcell hv hcl => kx u.1 u.2 H1 locs1 ce q9 hp ⟨by rw [← ht]; exact hB.2, hS1, hS.2.2.1, hS.2.2.2⟩ hcell hv (by rw [← hB.1]; exact hcl)) (fun r u t H1 locs1 ht _ hp hB _ _ hS1 => by
    obtain ⟨ad1, h1, h2, h3⟩ := hB
    exact kk r u.1 ad1 u.2 H1 locs1 hp h3 ⟨by rw [← ht]; exact h1, hS1, h2.wk hS.callA, hS.2.2.2⟩)
theorem cast_1 (hC : CX p s m args c cc nL own G A) : (Cond.castable (exN 1) "java/lang/IndexOutOfBoundsException").before args s = true := va_Nw.use rfl (hC.2.2.2.2.2.1.2.1 _ wq_502 rfl)
theorem cast_2 (hC : CX p s m args c cc nL own G A) : (Cond.castable (exN 2) "java/lang/IllegalArgumentException").before args s = true := va_Nw.use rfl (hC.2.2.2.2.2.1.2.1 _ wq_518 rfl)
theorem cast_3 (hC : CX p s m args c cc nL own G A) : (Cond.castable (exN 3) "java/lang/IllegalStateException").before args s = true := va_Nw.use rfl (hC.2.2.2.2.2.1.2.1 _ wq_341 rfl)
theorem nc_21 (hC : CX p s m args c cc nL own G A) : va_Nc (exN 2) "java/lang/IndexOutOfBoundsException" s := hC.2.2.2.2.2.1.2.2.2.2.2.2.1
theorem nc_31 (hC : CX p s m args c cc nL own G A) : va_Nc (exN 3) "java/lang/IndexOutOfBoundsException" s := hC.2.2.2.2.2.1.2.2.2.2.2.2.2.1
theorem nc_32 (hC : CX p s m args c cc nL own G A) : va_Nc (exN 3) "java/lang/IllegalArgumentException" s := hC.2.2.2.2.2.1.2.2.2.2.2.2.2.2.1
theorem nc_12 (hC : CX p s m args c cc nL own G A) : va_Nc (exN 1) "java/lang/IllegalArgumentException" s := hC.2.2.2.2.2.1.2.2.2.2.2.2.2.2.2
end WROWS
