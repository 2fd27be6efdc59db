/-! a short row of ints made on the way, beside the world -/
def STt (G : GG) (ks : List KY) (ad : AD) (V : VS) (q n : Nat) (f : Nat → Int32) (A : Nat → Prop) (H0 H : Heap) (locs : List Loc) : Prop :=
  va_P G.1 vwCl (pic G ks ad V ++ [(q, .inl (G.2.1, n, .inl f))]) H ∧ va_S A H0 H locs ∧ va_D A (pic G ks ad V ++ [(q, .inl (G.2.1, n, .inl f))]) ∧ Dj A ks ad ∧ ∀ q, H0.size ≤ q → A q
theorem STt.st {G : GG} {ks : List KY} {ad : AD} {V : VS} {q n : Nat} {f : Nat → Int32} {A : Nat → Prop} {H0 H : Heap} {locs : List Loc} (h : STt G ks ad V q n f A H0 H locs) : ST G ks ad V A H0 H locs := by
  refine ⟨fun k x hk => h.1 k x ?_, h.2.1, h.2.2.2⟩
  rw [List.getElem?_append_left (List.getElem?_eq_some_iff.mp hk).1]
  exact hk
theorem t_last {w : va_W} {x : Nat × va_E} : (w ++ [x])[w.length]? = some x := by simp
theorem t_setl {w : va_W} {x y : Nat × va_E} : (w ++ [x]).set w.length y = w ++ [y] := by simp
section GTEMP
variable {p : Program} {l : Launch} {e : Env} {R : Room} {s : State} {m : MethodId} {args : Array Value} {below : List Frame} {meth : Method} {c : Code} {H : Heap} {locs : List Loc} {cells slots : Nat} {Q : State → Prop}
variable {cc : ByteArray} {pc nL : Nat} {own : String} {ls : Array Slot} {rest st0 : List Value} {G : GG} {ks : List KY} {ad : AD} {V : VS} {A : Nat → Prop} {H0 : Heap} {lv : List (Nat × Value)}
theorem t_new {x : Int32} {n : Nat} (hC : CX p s m args c cc nL own G A) (hS : ST G ks ad V A H0 H locs) (harr : Cond.arrayClass .int ∈ lw_all) (hn : ¬ x < 0) (hN : x.toNatClampNeg = n) (hb : n * 4 ≤ 536870912) (hR : cells + 1 ≤ R.cells ∧ slots + n ≤ R.slots) (hd : decode cc pc = .ok (.newarray .int, 2))
    (kk : ∀ (q : Nat) (H1 : Heap), STt G ks ad V q n (fun _ => (0 : Int32)) A H0 H1 locs → W p l e R s m args below meth c H1 locs (cells + 1) (slots + n) Q (F0 m (pc + 2) ls (.ref q :: rest))) : W p l e R s m args below meth c H locs cells slots Q (F0 m pc ls (.int x :: rest)) := by
  refine va_newa (atype := .int) (ty := .int) (a0 := (n, .inl (fun _ => 0))) hC.1 hC.2.1 (hC.2.2.2.2.1 _ harr) rfl hC.2.2.2.2.2.1.1 hS.1 hS.2.2.1.D hS.2.1 hS.2.2.2 (fun cA => rfl) hn hN hb hR.1 hR.2 hd (fun q cA H1 hK hP hD hS1 => ?_)
  have e1 := (hC.2.2.2.2.2.1.1.2 0 (G.2.1, .int) rfl).2
  have e2 := (hK.2 3 (cA, .int) rfl).2
  have e3 : G.2.1 = cA := Option.some.inj (e1.symm.trans e2)
  subst e3
  exact kk q H1 ⟨hP, hS1, hD, hS.2.2⟩
theorem t_iast {q n : Nat} {f : Nat → Int32} {x y : Int32} (hC : CX p s m args c cc nL own G A) (hS : STt G ks ad V q n f A H0 H locs) (hx : vp_in x n) (hd : decode cc pc = .ok (.iastore, 1))
    (kk : ∀ (H1 : Heap) (locs1 : List Loc), STt G ks ad V q n (upd f x.toNatClampNeg y) A H0 H1 locs1 → W p l e R s m args below meth c H1 locs1 cells slots Q (F0 m (pc + 1) ls rest)) : W p l e R s m args below meth c H locs cells slots Q (F0 m pc ls (.int y :: .int x :: .ref q :: rest)) := by
  refine va_iast hC.1 hC.2.1 hC.2.2.2.2.2.1.1 hS.1 hS.2.2.1 hS.2.1 _ 0 t_last rfl hx hd (fun H1 locs1 hP hD hS1 => ?_)
  rw [t_setl] at hP hD
  exact kk H1 locs1 ⟨hP, hS1, hD, hS.2.2.2⟩
theorem t_iald {q n : Nat} {f : Nat → Int32} {x : Int32} (hC : CX p s m args c cc nL own G A) (hS : STt G ks ad V q n f A H0 H locs) (hx : vp_in x n) (hd : decode cc pc = .ok (.iaload, 1))
    (kk : W p l e R s m args below meth c H locs cells slots Q (F0 m (pc + 1) ls (.int (f x.toNatClampNeg) :: rest))) : W p l e R s m args below meth c H locs cells slots Q (F0 m pc ls (.int x :: .ref q :: rest)) :=
  va_iald hC.1 hC.2.1 hC.2.2.2.2.2.1.1 hS.1 _ 0 t_last rfl hx hd kk
theorem t_copy {q n0 : Nat} {f : Nat → Int32} (hC : CX p s m args c cc nL own G A) (hS : STt G ks ad V q n0 f A H0 H locs) (hl : lv_has ls nL lv) {k1 w1 i1 idx : Nat} {sp dp n : Int32} (hk1 : (k1, w1, i1) ∈ ks) (ha1 : 0 < aLen k1) (h1 : ¬ sp < 0) (h2 : ¬ dp < 0) (h3 : ¬ n < 0) (h4 : sp.toNatClampNeg + n.toNatClampNeg ≤ n0) (h5 : dp.toNatClampNeg + n.toNatClampNeg ≤ aLen k1)
    (hlink : Cond.methodLink own idx arraycopyName ∈ lw_all) (hnat : Cond.native arraycopyName ∈ lw_all) (hst : Cond.static arraycopyName ∈ lw_all) (hini : Cond.initialized "java/lang/System" ∈ lw_all) (hR : 1 ≤ R.frames ∧ (rest.map fun v => v.category).sum + (nativeFrameWords "java/lang/System" "arraycopy" 5 + 11) ≤ R.locals) (hd : decode cc pc = .ok (.invokestatic idx, 3))
    (kk : ∀ (H1 : Heap) (locs1 : List Loc), ST G ks ad (vrow V k1 w1 i1 (va_cpy f (V k1 w1 i1 0) sp.toNatClampNeg dp.toNatClampNeg n.toNatClampNeg)) A H0 H1 locs1 → W p l e R s m args below meth c H1 locs1 cells slots Q (F0 m (pc + 3) ls rest)) : W p l e R s m args below meth c H locs cells slots Q (F0 m pc ls (.int n :: .int dp :: .ref (ad k1 w1 i1) :: .int sp :: .ref q :: rest)) := by
  obtain ⟨hx, hb, hml, hown, hts, hK, hZ9⟩ := hC
  obtain ⟨hP, hS1, hD, hDj, hA⟩ := hS
  obtain ⟨q1, hq1⟩ := List.getElem?_of_mem hk1
  have he1 := at_pic (G := G) (ad := ad) (V := V) hq1
  rw [ce_ary ha1] at he1
  have hlt := (List.getElem?_eq_some_iff.mp he1).1
  have he2 : (pic G ks ad V ++ [(q, .inl (G.2.1, n0, .inl f))])[q1]? = some (ad k1 w1 i1, .inl (G.2.1, aLen k1, .inl (V k1 w1 i1 0))) := by rw [List.getElem?_append_left hlt]; exact he1
  have hk2 : k1 ≠ 2 := fun z => by subst z; exact absurd ha1 (by decide)
  refine va_copyi hx hb (hml.trans hl.1.symm) hown (hts _ hlink) (hts _ hnat) (hts _ hst) (hts _ hini) hK.1 hP hD hS1 _ q1 0 0 t_last he2 rfl rfl rfl h1 h2 h3 h4 h5 (fun _ _ => rfl) hR.1 hR.2 hd (fun H1 locs1 hP1 _ hS2 => ?_)
  rw [List.set_append_left _ _ hlt, pic_set hDj hq1 (by rw [ce_ary ha1, vrow_eq]) (fun k' w' i' h => ce_otherR hk2 h)] at hP1
  exact kk H1 locs1 ⟨fun k x hk => hP1 k x (by rw [List.getElem?_append_left (List.getElem?_eq_some_iff.mp hk).1]; exact hk), hS2, hDj, hA⟩
theorem t_calli {q n mc ms : Nat} {a : Array Value} {f : Nat → Int32} {post : Int32 → VS → Prop} (hS : STt G ks ad V q n f A s.heap H locs) (hr : va_Run p l e R s m args below meth c H locs cells slots mc ms (F0 m pc ls st0) rest (mQi post G ks ad H.size a) (mA ks ad H.size))
    (kk : ∀ (r : Int32) (V1 : VS) (H1 : Heap) (locs1 : List Loc), post r V1 → STt G ks ad V1 q n f A s.heap H1 locs1 → W p l e R s m args below meth c H1 locs1 (cells + mc) (slots + ms) Q (F0 m (pc + 3) ls (.int r :: rest))) : W p l e R s m args below meth c H locs cells slots Q (F0 m pc ls st0) := by
  have hq : q < H.size := (hS.1 _ _ t_last).lt
  have hne : ¬ mA ks ad H.size q := by
    intro h
    rcases h with ⟨x, hx, e⟩ | h
    · obtain ⟨i, hi⟩ := List.getElem?_of_mem hx
      have h1 := at_pic (G := G) (ad := ad) (V := V) hi
      have hlt := (List.getElem?_eq_some_iff.mp h1).1
      have h2 : (pic G ks ad V ++ [(q, .inl (G.2.1, n, .inl f))])[i]? = some (ad x.1 x.2.1 x.2.2, cE G ad V x.1 x.2.1 x.2.2) := by rw [List.getElem?_append_left hlt]; exact h1
      have h3 := hS.2.2.1.1 i _ _ _ h2 t_last e
      omega
    · omega
  refine va_calli hr hS.2.1 (fun q _ h => hS.st.callA q h) hS.st.callA (fun r u t H1 locs1 ht _ hp hB _ hk hS1 => kk r u H1 locs1 hp ⟨?_, hS1, ?_, hS.2.2.2⟩)
  · refine va_P.app (by rw [← ht]; exact hB) (fun k x hx => ?_)
    have h0 := hS.1 _ _ (t_last (w := pic G ks ad V) (x := (q, .inl (G.2.1, n, .inl f))))
    cases k with
    | zero => cases hx; exact h0.kept (hk q hq hne)
    | succ k => simp at hx
  · refine va_D.app hS.2.2.2.1.D (w2 := [(q, .inl (G.2.1, n, .inl f))]) ⟨fun i j x y hi hj _ => ?_, fun k x hk => ?_⟩ (fun i j x y hx hy e => ?_)
    · have := (List.getElem?_eq_some_iff.mp hi).1
      have := (List.getElem?_eq_some_iff.mp hj).1
      simp only [List.length_cons, List.length_nil] at *
      omega
    · cases k with
      | zero => cases hk; exact hS.2.2.1.2 _ _ t_last
      | succ k => simp at hk
    · cases j with
      | zero =>
        cases hy
        obtain ⟨z, h1, rfl⟩ := pic_at hx
        exact hne (Or.inl ⟨z, List.mem_of_getElem? h1, e⟩)
      | succ j => simp at hy
end GTEMP
