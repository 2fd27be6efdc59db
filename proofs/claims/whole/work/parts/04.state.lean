/-! THE WORLD of this proof: all cells by a key (kind, world, number); what they hold: numbers of one store V -/
abbrev VS : Type := Nat → Nat → Nat → Nat → Nat → Int32
abbrev KY : Type := Nat × Nat × Nat
abbrev AD : Type := Nat → Nat → Nat → Nat
abbrev GG : Type := va_G × ClassId × ClassId × ClassId × Nat
/-- the store with another number at one place -/
def vup (V : VS) (k w i f j : Nat) (x : Int32) : VS := fun k' w' i' f' j' => if k' = k ∧ w' = w ∧ i' = i ∧ f' = f ∧ j' = j then x else V k' w' i' f' j'
/-- how many places a list of n elements has -/
def capOf (n : Nat) : Nat := if n = 0 then 0 else if n ≤ 10 then 10 else if n ≤ 15 then 15 else if n ≤ 22 then 22 else 33
abbrev lsz (V : VS) (w K : Nat) : Nat := (V 2 w K 2 0).toNatClampNeg
def ary (G : GG) (n : Nat) (X : Nat → Nat → Int32) : va_E := .inl (G.2.1, n, .inl (X 0))
def cG (G : GG) (ad : AD) (k w i : Nat) (X : Nat → Nat → Int32) (n : Nat) : va_E := match k with
  | 0 => .inr (9, [.ref (ad 1 0 0), .ref (ad 1 1 0)])
  | 1 => .inr (8, [.ref (ad 2 w 0), .ref (ad 2 w 1), .ref (ad 2 w 2), .ref (ad 2 w 3), .ref (ad 10 w 0), .ref (ad 12 w 0), .ref (ad 14 w 0), .int (X 7 0), .int (X 8 0)])
  | 2 => .inr (0, [.int (X 2 0), .ref (if X 2 0 = 0 then G.2.2.2.2 else ad 3 w i), .int (X 2 0)])
  | 3 => .inl (G.2.2.1, capOf n, .inr (.inr (.inr (.inr (fun j => if j < n then some (ad (4 + i) w j) else none)))))
  | 4 => .inr (2, [.int (X 0 0), .int (X 1 0)])
  | 5 => .inr (3, [.int (X 0 0), .int (X 1 0), .int (X 2 0), .int (X 3 0), .int (X 4 0)])
  | 6 => .inr (1, [.int (X 0 0), .int (X 1 0), .ref (ad 8 w i), .int (X 3 0), .int (X 4 0), .int (X 5 0)])
  | 7 => .inr (5, [.int (X 0 0), .int (X 1 0), .int (X 2 0), .int (X 3 0), .int (X 4 0), .int (X 5 0), .int (X 6 0), .int (X 7 0)])
  | 8 => .inr (4, [.ref (ad 9 w i), .int (X 1 0)])
  | 9 => ary G 10 X
  | 10 => .inr (7, [.ref (ad 11 w 0)])
  | 11 => ary G 64 X
  | 12 => .inr (6, [.ref (ad 13 w 0), .int (X 1 0), .int (X 2 0)])
  | 13 => ary G 8 X
  | 14 => ary G 7 X
  | 15 => .inr (11, [.int (X 0 0), .int (X 1 0), .int (X 2 0), .ref (ad 17 0 0), .ref (ad 18 0 0), .int (X 5 0), .int (X 6 0), .ref (ad 19 0 0), .int (X 8 0), .ref (ad 20 0 0), .ref (ad 21 0 0), .ref (ad 16 0 0), .ref (ad 16 1 0)])
  | 16 => .inr (10, [.int (X 0 0), .int (X 1 0), .int (X 2 0), .ref (ad 22 w 0), .ref (ad 23 w 0), .int (X 5 0), .ref (ad 24 w 0), .ref (ad 25 w 0), .ref (ad 26 w 0), .ref (ad 27 w 0), .ref (ad 28 w 0), .ref (ad 29 w 0), .ref (ad 30 w 0), .ref (ad 31 w 0), .ref (ad 32 w 0), .ref (ad 33 w 0), .ref (ad 15 0 0)])
  | 17 => ary G 64 X
  | 18 => ary G 7 X
  | 19 => ary G 24 X
  | 20 => ary G 30 X
  | 21 => ary G 64 X
  | 22 => ary G 16 X
  | 23 => ary G 8 X
  | 24 => ary G 8 X
  | 25 => ary G 8 X
  | 26 => ary G 24 X
  | 27 => ary G 24 X
  | 28 => ary G 24 X
  | 29 => ary G 240 X
  | 30 => ary G 24 X
  | 31 => ary G 10 X
  | 32 => ary G 10 X
  | 33 => ary G 10 X
  | _ => .inl (G.2.2.2.1, 1, .inr (.inl (fun _ => (X 0 0).toInt64)))
def aLen (k : Nat) : Nat := match k with
  | 9 => 10 | 11 => 64 | 13 => 8 | 14 => 7 | 17 => 64 | 18 => 7 | 19 => 24 | 20 => 30 | 21 => 64 | 22 => 16 | 23 => 8 | 24 => 8 | 25 => 8
  | 26 => 24 | 27 => 24 | 28 => 24 | 29 => 240 | 30 => 24 | 31 => 10 | 32 => 10 | 33 => 10 | _ => 0
def cE (G : GG) (ad : AD) (V : VS) (k w i : Nat) : va_E := cG G ad k w i (V k w i) (lsz V w i)
theorem ce_ary {G : GG} {ad : AD} {V : VS} {k w i : Nat} (h : 0 < aLen k) : cE G ad V k w i = .inl (G.2.1, aLen k, .inl (V k w i 0)) := by
  unfold aLen at h ⊢
  split at h <;> first | rfl | exact absurd h (Nat.lt_irrefl 0)
def pic (G : GG) (ks : List KY) (ad : AD) (V : VS) : va_W := ks.map (fun k => (ad k.1 k.2.1 k.2.2, cE G ad V k.1 k.2.1 k.2.2))
abbrev tysG (G : GG) : List (ClassId × FieldType) := [(G.2.1, .int), (G.2.2.1, .object "java/lang/Object"), (G.2.2.2.1, .long)]
def isNest : Cond → Bool
  | .fieldLinkNest _ _ _ _ _ _ => true
  | .methodLinkNest _ _ _ _ => true
  | .castable _ _ => true
  | .declares _ => true
  | _ => false
/-- the words that the method lists can't hold, the String constants, Object[]'s own class -/
def gK (G : GG) (U : State) : Prop := va_K G.1 vwCl (tysG G) U ∧ (∀ w ∈ lw_tbl, isNest w = true → va_Nw w U) ∧ (∀ (own tx : String) (k : Nat), Cond.stringRef own k tx ∈ lw_tbl → ∃ a, vk_R own k tx a U) ∧ va_AO "java/lang/Object" U ∧ va_Dc U ∧ (∃ mi, va_Mi "[Ljava/lang/Object;" mi U) ∧ va_Nc "java/lang/IllegalArgumentException" "java/lang/IndexOutOfBoundsException" U ∧ va_Nc "java/lang/IllegalStateException" "java/lang/IndexOutOfBoundsException" U ∧ va_Nc "java/lang/IllegalStateException" "java/lang/IllegalArgumentException" U ∧ va_Nc "java/lang/IndexOutOfBoundsException" "java/lang/IllegalArgumentException" U
theorem va_Nc.moved9 {C T : String} {u U : State} (hvm : u.vm.Alike U.vm) (h : va_Nc C T u) : va_Nc C T U := by
  obtain ⟨c, t, h1, h2, h3⟩ := h
  exact ⟨c, t, by rw [hvm.findClass]; exact h1, by rw [hvm.findClass]; exact h2, by rw [hvm.assignable]; exact h3⟩
theorem gK.warm {G : GG} {s U : State} (hW : s.WarmedH U.vm) (h : gK G s) : gK G U := by
  obtain ⟨h1, h2, h3, h4, h5, ⟨mi, h6⟩, h7, h8, h9, h10⟩ := h
  refine ⟨va_K.moved hW.alike h1, fun w hw hn => ?_, fun own tx k hw => ?_, va_AO.moved hW.alike h4, va_Dc.moved hW.alike h5, ⟨mi, va_Mi.moved hW.alike h6⟩, va_Nc.moved9 hW.alike h7, va_Nc.moved9 hW.alike h8, va_Nc.moved9 hW.alike h9, va_Nc.moved9 hW.alike h10⟩
  · have h2 := h2 w hw hn
    unfold isNest at hn
    split at hn
    · exact va_Nw.warmF hW h2
    · exact va_Nw.warmM hW h2
    · exact va_Nw.warmC hW h2
    · exact va_Nw.warmD hW h2
    · exact absurd hn (by decide)
  · obtain ⟨a, ha⟩ := h3 own tx k hw
    exact ⟨a, ha.warm hW⟩
theorem gK.same {G : GG} {u U : State} (hvm : u.vm = U.vm) (h : gK G u) : gK G U := by
  obtain ⟨h1, h2, h3, h4, h5, ⟨mi, h6⟩, h7, h8, h9, h10⟩ := h
  have hal : u.vm.Alike U.vm := by rw [← hvm]; exact Vm.Alike.refl _
  refine ⟨va_K.moved hal h1, fun w hw hn => ?_, fun own tx k hw => ?_, va_AO.moved hal h4, va_Dc.moved hal h5, ⟨mi, va_Mi.moved hal h6⟩, va_Nc.moved9 hal h7, va_Nc.moved9 hal h8, va_Nc.moved9 hal h9, va_Nc.moved9 hal h10⟩
  · have h2 := h2 w hw hn
    unfold isNest at hn
    split at hn
    · exact va_Nw.same rfl hvm h2
    · exact va_Nw.same rfl hvm h2
    · exact va_Nw.same rfl hvm h2
    · exact va_Nw.same rfl hvm h2
    · exact absurd hn (by decide)
  · obtain ⟨a, ha⟩ := h3 own tx k hw
    exact ⟨a, ha.same hvm.symm⟩
theorem gK.calling {G : GG} {U : State} {g : JFrame} {mk : MethodId} {a : Array Value} (h : gK G U) : gK G (U.calling g mk a) := gK.same (u := U) (U := U.calling g mk a) rfl h
/-- the statics that a throw and a new list read: nobody writes them -/
def gZ (G : GG) (A : Nat → Prop) (U : State) (H : Heap) : Prop := vx_Zq Bundle.tN "UNASSIGNED_STACK" Bundle.steD A U H ∧ vx_Zq Bundle.tN "SUPPRESSED_SENTINEL" Bundle.listD A U H ∧ va_Z "java/util/ArrayList" "DEFAULTCAPACITY_EMPTY_ELEMENTDATA" "[Ljava/lang/Object;" (.ref G.2.2.2.2) A U H ∧ va_T (.object "java/lang/Object") G.2.2.2.2 0 (fun _ => .null) A U H
theorem gZ.go {G : GG} {A B : Nat → Prop} {u U : State} {H H1 : Heap} (hvm : u.vm.Alike U.vm) (hq : ∀ a : Nat, a < H.size → ¬ A a → H1[a]? = H[a]?) (hAB : ∀ q, B q → A q) (h : gZ G A u H) : gZ G B U H1 :=
  ⟨((vx_Zq.moved hvm h.1).kept hq).narrow hAB, ((vx_Zq.moved hvm h.2.1).kept hq).narrow hAB, ((va_Z.moved hvm h.2.2.1).kept hq).narrow hAB, ((va_T.moved hvm h.2.2.2).kept hq).narrow hAB⟩
/-- the cells are apart, and lie in A -/
def Dj (A : Nat → Prop) (ks : List KY) (ad : AD) : Prop := (∀ (i j : Nat) (x y : KY), ks[i]? = some x → ks[j]? = some y → ad x.1 x.2.1 x.2.2 = ad y.1 y.2.1 y.2.2 → i = j) ∧ ∀ x ∈ ks, A (ad x.1 x.2.1 x.2.2)
def mA (ks : List KY) (ad : AD) (sz : Nat) : Nat → Prop := fun q => (∃ x ∈ ks, ad x.1 x.2.1 x.2.2 = q) ∨ sz ≤ q
theorem pic_at {G : GG} {ks : List KY} {ad : AD} {V : VS} {i : Nat} {q : Nat × va_E} (h : (pic G ks ad V)[i]? = some q) : ∃ x, ks[i]? = some x ∧ q = (ad x.1 x.2.1 x.2.2, cE G ad V x.1 x.2.1 x.2.2) := by
  unfold pic at h
  rw [List.getElem?_map] at h
  cases hx : ks[i]? with
  | none => rw [hx] at h; cases h
  | some x => rw [hx] at h; exact ⟨x, rfl, (Option.some.inj h).symm⟩
theorem at_pic {G : GG} {ks : List KY} {ad : AD} {V : VS} {i : Nat} {x : KY} (h : ks[i]? = some x) : (pic G ks ad V)[i]? = some (ad x.1 x.2.1 x.2.2, cE G ad V x.1 x.2.1 x.2.2) := by
  unfold pic
  rw [List.getElem?_map, h]
  rfl
theorem Dj.D {A : Nat → Prop} {G : GG} {ks : List KY} {ad : AD} {V : VS} (h : Dj A ks ad) : va_D A (pic G ks ad V) := by
  refine ⟨fun i j p q hp hq e => ?_, fun k q hk => ?_⟩
  · obtain ⟨x, h1, rfl⟩ := pic_at hp
    obtain ⟨y, h2, rfl⟩ := pic_at hq
    exact h.1 i j x y h1 h2 e
  · obtain ⟨x, h1, rfl⟩ := pic_at hk
    exact h.2 x (List.mem_of_getElem? h1)
theorem Dj.mA {A : Nat → Prop} {ks : List KY} {ad : AD} {sz : Nat} (h : Dj A ks ad) : Dj (mA ks ad sz) ks ad := ⟨h.1, fun x hx => Or.inl ⟨x, hx, rfl⟩⟩
theorem Dj.all {A : Nat → Prop} {ks : List KY} {ad : AD} (h : Dj A ks ad) : Dj (fun _ => True) ks ad := ⟨h.1, fun _ _ => trivial⟩
/-- the machine's side of a frame: fixed through a method -/
def CX (p : Program) (s : State) (m : MethodId) (args : Array Value) (c : Code) (cc : ByteArray) (nL : Nat) (own : String) (G : GG) (A : Nat → Prop) : Prop :=
  p.tables.exec = Jvm.exec ∧ c.code = cc ∧ c.maxLocals = nL ∧ s.vm.findClass own = some m.cls ∧ (∀ w ∈ lw_all, w.before args s = true) ∧ gK G s ∧ gZ G A s s.heap
/-- the heap's side: the picture, what is kept, the cells apart, new cells allowed -/
def ST (G : GG) (ks : List KY) (ad : AD) (V : VS) (A : Nat → Prop) (H0 H : Heap) (locs : List Loc) : Prop :=
  va_P G.1 vwCl (pic G ks ad V) H ∧ va_S A H0 H locs ∧ Dj A ks ad ∧ ∀ q, H0.size ≤ q → A q
theorem vup_ne {V : VS} {k w i f j : Nat} {x : Int32} {k' w' i' : Nat} (h : ¬ (k' = k ∧ w' = w ∧ i' = i)) : vup V k w i f j x k' w' i' = V k' w' i' := by
  funext f' j'
  unfold vup
  rw [if_neg (fun z => h ⟨z.1, z.2.1, z.2.2.1⟩)]
theorem vup_eq {V : VS} {k w i f j : Nat} {x : Int32} : vup V k w i f j x k w i f j = x := by unfold vup; rw [if_pos ⟨rfl, rfl, rfl, rfl, rfl⟩]
theorem vup_row {V : VS} {k w i j : Nat} {x : Int32} : vup V k w i 0 j x k w i 0 = upd (V k w i 0) j x := by
  funext j'
  unfold vup upd
  by_cases h : j' = j
  · rw [if_pos ⟨rfl, rfl, rfl, rfl, h⟩, if_pos h]
  · rw [if_neg (fun z => h z.2.2.2.2), if_neg h]
theorem vup_fld {V : VS} {k w i f f' j' : Nat} {x : Int32} (h : f' ≠ f) : vup V k w i f 0 x k w i f' j' = V k w i f' j' := by
  unfold vup
  rw [if_neg (fun z => h z.2.2.2.1)]
theorem ce_other {G : GG} {ad : AD} {V : VS} {k w i f j : Nat} {x : Int32} (hk2 : k ≠ 2) {k' w' i' : Nat} (h : ¬ (k' = k ∧ w' = w ∧ i' = i)) : cE G ad (vup V k w i f j x) k' w' i' = cE G ad V k' w' i' := by
  unfold cE lsz
  rw [vup_ne h, vup_ne (V := V) (k := k) (w := w) (i := i) (f := f) (j := j) (x := x) (k' := 2) (w' := w') (i' := i') (fun z => hk2 z.1.symm)]
/-- one cell anew -/
theorem pic_set {A : Nat → Prop} {G : GG} {ks : List KY} {ad : AD} {V V' : VS} {k w i q0 : Nat} {e : va_E} (hD : Dj A ks ad) (hq : ks[q0]? = some (k, w, i)) (he : cE G ad V' k w i = e) (ho : ∀ k' w' i', ¬ (k' = k ∧ w' = w ∧ i' = i) → cE G ad V' k' w' i' = cE G ad V k' w' i') : (pic G ks ad V).set q0 (ad k w i, e) = pic G ks ad V' := by
  apply List.ext_getElem?
  intro j
  by_cases hj : j = q0
  · subst hj
    have hl : j < (pic G ks ad V).length := (List.getElem?_eq_some_iff.mp (at_pic (G := G) (ad := ad) (V := V) hq)).1
    rw [List.getElem?_set_self hl, at_pic hq, ← he]
  · rw [List.getElem?_set_ne (Ne.symm hj)]
    cases hx : ks[j]? with
    | none =>
      have h1 : ks.length ≤ j := List.getElem?_eq_none_iff.mp hx
      rw [List.getElem?_eq_none (by unfold pic; rw [List.length_map]; exact h1), List.getElem?_eq_none (by unfold pic; rw [List.length_map]; exact h1)]
    | some x =>
      rw [at_pic hx, at_pic hx]
      have hne : ¬ (x.1 = k ∧ x.2.1 = w ∧ x.2.2 = i) := fun z => hj (hD.1 j q0 x (k, w, i) hx hq (by rw [z.1, z.2.1, z.2.2]))
      rw [ho _ _ _ hne]
section GROWS
variable {p : Program} {l : Launch} {e : Env} {R : Room} {s : State} {m : MethodId} {args : Array Value} {below : List Frame} {meth : Method} {c : Code} {H : Heap} {locs : List Loc} {cells slots : Nat} {Q : State → Prop}
variable {cc : ByteArray} {pc nL : Nat} {own : String} {ls : Array Slot} {rest : List Value} {G : GG} {ks : List KY} {ad : AD} {V : VS} {A : Nat → Prop} {H0 : Heap}
theorem g_get (hC : CX p s m args c cc nL own G A) (hS : ST G ks ad V A H0 H locs) {k w i ci N idx : Nat} {C : String} {T : u_T} {fs : List Value} {v : Value} (hk : (k, w, i) ∈ ks) (hc : cE G ad V k w i = .inr (ci, fs)) (hcl : vwCl[ci]? = some (C, T, N)) (hin : ∀ w ∈ u_ws C T N, w ∈ lw_all)
    (j : Nat) (hj : j < N) (hv : fs[j]? = some v) (hlink : Cond.fieldLink own idx (T j).1 (T j).2.1 (T j).2.2.1 ∈ lw_all) (hd : decode cc pc = .ok (.getfield idx, 3))
    (kk : W p l e R s m args below meth c H locs cells slots Q (F0 m (pc + 3) ls (v :: rest))) : W p l e R s m args below meth c H locs cells slots Q (F0 m pc ls (.ref (ad k w i) :: rest)) := by
  obtain ⟨hx, hb, -, hown, hts, hK, hZ9⟩ := hC
  obtain ⟨q0, hq⟩ := List.getElem?_of_mem hk
  have he := at_pic (G := G) (ad := ad) (V := V) hq
  rw [hc] at he
  exact va_get hx hb hts hin hown hK.1 hS.1 q0 he hcl j hj (hts _ hlink) (fun _ h => h) hv hd kk
theorem g_getN (hC : CX p s m args c cc nL own G A) (hS : ST G ks ad V A H0 H locs) {k w i ci N idx : Nat} {C host : String} {T : u_T} {fs : List Value} {v : Value} (hk : (k, w, i) ∈ ks) (hc : cE G ad V k w i = .inr (ci, fs)) (hcl : vwCl[ci]? = some (C, T, N)) (hin : ∀ w ∈ u_ws C T N, w ∈ lw_all)
    (j : Nat) (hj : j < N) (hv : fs[j]? = some v) (hlink : Cond.fieldLinkNest own idx (T j).1 (T j).2.1 (T j).2.2.1 host ∈ lw_tbl) (hd : decode cc pc = .ok (.getfield idx, 3))
    (kk : W p l e R s m args below meth c H locs cells slots Q (F0 m (pc + 3) ls (v :: rest))) : W p l e R s m args below meth c H locs cells slots Q (F0 m pc ls (.ref (ad k w i) :: rest)) := by
  obtain ⟨hx, hb, -, hown, hts, hK, hZ9⟩ := hC
  obtain ⟨q0, hq⟩ := List.getElem?_of_mem hk
  have he := at_pic (G := G) (ad := ad) (V := V) hq
  rw [hc] at he
  exact va_getN hx hb hts hin hown hK.1 hS.1 q0 he hcl j hj (va_Nw.use rfl (hK.2.1 _ hlink rfl)) (fun _ h => h) hv hd kk
theorem g_put (hC : CX p s m args c cc nL own G A) (hS : ST G ks ad V A H0 H locs) {k w i ci N idx : Nat} {C : String} {T : u_T} {fs : List Value} {x : Int32} (hk : (k, w, i) ∈ ks) (hc : cE G ad V k w i = .inr (ci, fs)) (hcl : vwCl[ci]? = some (C, T, N)) (hin : ∀ w ∈ u_ws C T N, w ∈ lw_all)
    (ty0 : Nat → FieldType) (hty : ∀ k, k < N → parseFieldDescriptor (T k).2.2.1 = some (ty0 k)) (hnm : ∀ a, a < N → ∀ b, b < N → a ≠ b → (T a).2.1 ≠ (T b).2.1)
    (j : Nat) (hj : j < N) (hjl : j < fs.length) (hfin : (T j).2.2.2 = false) (hint : ty0 j = .int) (hlink : Cond.fieldLink own idx (T j).1 (T j).2.1 (T j).2.2.1 ∈ lw_all) (hd : decode cc pc = .ok (.putfield idx, 3))
    (hk2 : k ≠ 2) (hV : cE G ad (vup V k w i j 0 x) k w i = .inr (ci, fs.set j (.int x)))
    (kk : ∀ (H1 : Heap) (locs1 : List Loc), ST G ks ad (vup V k w i j 0 x) A H0 H1 locs1 → W p l e R s m args below meth c H1 locs1 cells slots Q (F0 m (pc + 3) ls rest)) : W p l e R s m args below meth c H locs cells slots Q (F0 m pc ls (.int x :: .ref (ad k w i) :: rest)) := by
  obtain ⟨hx, hb, -, hown, hts, hK, hZ9⟩ := hC
  obtain ⟨hP, hS1, hD, hA⟩ := hS
  obtain ⟨q0, hq⟩ := List.getElem?_of_mem hk
  have he := at_pic (G := G) (ad := ad) (V := V) hq
  rw [hc] at he
  refine va_put hx hb hts hin ty0 hty hnm hown hK.1 hP hD.D hS1 q0 he hcl j hj (hts _ hlink) (fun _ h => h) hfin (by rw [hty j hj, hint]) rfl rfl hjl hd (fun H1 locs1 hP1 _ hS2 => ?_)
  rw [pic_set hD hq hV (fun k' w' i' h => ce_other hk2 h)] at hP1
  exact kk H1 locs1 ⟨hP1, hS2, hD, hA⟩
theorem g_putN (hC : CX p s m args c cc nL own G A) (hS : ST G ks ad V A H0 H locs) {k w i ci N idx : Nat} {C host : String} {T : u_T} {fs : List Value} {x : Int32} (hk : (k, w, i) ∈ ks) (hc : cE G ad V k w i = .inr (ci, fs)) (hcl : vwCl[ci]? = some (C, T, N)) (hin : ∀ w ∈ u_ws C T N, w ∈ lw_all)
    (ty0 : Nat → FieldType) (hty : ∀ k, k < N → parseFieldDescriptor (T k).2.2.1 = some (ty0 k)) (hnm : ∀ a, a < N → ∀ b, b < N → a ≠ b → (T a).2.1 ≠ (T b).2.1)
    (j : Nat) (hj : j < N) (hjl : j < fs.length) (hfin : (T j).2.2.2 = false) (hint : ty0 j = .int) (hlink : Cond.fieldLinkNest own idx (T j).1 (T j).2.1 (T j).2.2.1 host ∈ lw_tbl) (hd : decode cc pc = .ok (.putfield idx, 3))
    (hk2 : k ≠ 2) (hV : cE G ad (vup V k w i j 0 x) k w i = .inr (ci, fs.set j (.int x)))
    (kk : ∀ (H1 : Heap) (locs1 : List Loc), ST G ks ad (vup V k w i j 0 x) A H0 H1 locs1 → W p l e R s m args below meth c H1 locs1 cells slots Q (F0 m (pc + 3) ls rest)) : W p l e R s m args below meth c H locs cells slots Q (F0 m pc ls (.int x :: .ref (ad k w i) :: rest)) := by
  obtain ⟨hx, hb, -, hown, hts, hK, hZ9⟩ := hC
  obtain ⟨hP, hS1, hD, hA⟩ := hS
  obtain ⟨q0, hq⟩ := List.getElem?_of_mem hk
  have he := at_pic (G := G) (ad := ad) (V := V) hq
  rw [hc] at he
  refine va_putN hx hb hts hin ty0 hty hnm hown hK.1 hP hD.D hS1 q0 he hcl j hj (va_Nw.use rfl (hK.2.1 _ hlink rfl)) (fun _ h => h) hfin (by rw [hty j hj, hint]) rfl rfl hjl hd (fun H1 locs1 hP1 _ hS2 => ?_)
  rw [pic_set hD hq hV (fun k' w' i' h => ce_other hk2 h)] at hP1
  exact kk H1 locs1 ⟨hP1, hS2, hD, hA⟩
theorem g_iald (hC : CX p s m args c cc nL own G A) (hS : ST G ks ad V A H0 H locs) {k w i : Nat} {x : Int32} (hk : (k, w, i) ∈ ks) (ha : 0 < aLen k) (hx9 : vp_in x (aLen k)) (hd : decode cc pc = .ok (.iaload, 1))
    (kk : W p l e R s m args below meth c H locs cells slots Q (F0 m (pc + 1) ls (.int (V k w i 0 x.toNatClampNeg) :: rest))) : W p l e R s m args below meth c H locs cells slots Q (F0 m pc ls (.int x :: .ref (ad k w i) :: rest)) := by
  obtain ⟨hx, hb, -, hown, hts, hK, hZ9⟩ := hC
  obtain ⟨q0, hq⟩ := List.getElem?_of_mem hk
  have he := at_pic (G := G) (ad := ad) (V := V) hq
  rw [ce_ary ha] at he
  exact va_iald hx hb hK.1 hS.1 q0 0 he rfl hx9 hd kk
theorem g_alen (hC : CX p s m args c cc nL own G A) (hS : ST G ks ad V A H0 H locs) {k w i : Nat} (hk : (k, w, i) ∈ ks) (ha : 0 < aLen k) (hd : decode cc pc = .ok (.arraylength, 1))
    (kk : W p l e R s m args below meth c H locs cells slots Q (F0 m (pc + 1) ls (.int (nI (aLen k)) :: rest))) : W p l e R s m args below meth c H locs cells slots Q (F0 m pc ls (.ref (ad k w i) :: rest)) := by
  obtain ⟨hx, hb, -, hown, hts, hK, hZ9⟩ := hC
  obtain ⟨q0, hq⟩ := List.getElem?_of_mem hk
  have he := at_pic (G := G) (ad := ad) (V := V) hq
  rw [ce_ary ha] at he
  exact va_alen hx hb hK.1 hS.1 q0 0 he rfl rfl hd kk
theorem g_iast (hC : CX p s m args c cc nL own G A) (hS : ST G ks ad V A H0 H locs) {k w i : Nat} {x y : Int32} (hk : (k, w, i) ∈ ks) (ha : 0 < aLen k) (hx9 : vp_in x (aLen k)) (hd : decode cc pc = .ok (.iastore, 1))
    (kk : ∀ (H1 : Heap) (locs1 : List Loc), ST G ks ad (vup V k w i 0 x.toNatClampNeg y) A H0 H1 locs1 → W p l e R s m args below meth c H1 locs1 cells slots Q (F0 m (pc + 1) ls rest)) : W p l e R s m args below meth c H locs cells slots Q (F0 m pc ls (.int y :: .int x :: .ref (ad k w i) :: rest)) := by
  obtain ⟨hx, hb, -, hown, hts, hK, hZ9⟩ := hC
  obtain ⟨hP, hS1, hD, hA⟩ := hS
  obtain ⟨q0, hq⟩ := List.getElem?_of_mem hk
  have he := at_pic (G := G) (ad := ad) (V := V) hq
  rw [ce_ary ha] at he
  have hk2 : k ≠ 2 := fun z => by subst z; exact absurd ha (by decide)
  refine va_iast hx hb hK.1 hP hD.D hS1 q0 0 he rfl hx9 hd (fun H1 locs1 hP1 _ hS2 => ?_)
  rw [pic_set hD hq (by rw [ce_ary ha, vup_row]) (fun k' w' i' h => ce_other hk2 h)] at hP1
  exact kk H1 locs1 ⟨hP1, hS2, hD, hA⟩
theorem g_recv (hC : CX p s m args c cc nL own G A) (hS : ST G ks ad V A H0 H locs) {k w i ci N : Nat} {C : String} {T : u_T} {fs : List Value} (hk : (k, w, i) ∈ ks) (hc : cE G ad V k w i = .inr (ci, fs)) (hcl : vwCl[ci]? = some (C, T, N)) : ∃ cell : Cell, H[ad k w i]? = some cell ∧ cell.vm.isStatics = false ∧ s.vm.findClass C = some cell.cls := by
  obtain ⟨q0, hq⟩ := List.getElem?_of_mem hk
  have he := at_pic (G := G) (ad := ad) (V := V) hq
  rw [hc] at he
  exact va_recv hC.2.2.2.2.2.1.1 hS.1 hcl he
theorem g_cast (hC : CX p s m args c cc nL own G A) (hS : ST G ks ad V A H0 H locs) {k w i ci N idx : Nat} {C : String} {T : u_T} {fs : List Value} (hk : (k, w, i) ∈ ks) (hc : cE G ad V k w i = .inr (ci, fs)) (hcl : vwCl[ci]? = some (C, T, N)) (hlink : Cond.classLink own idx C ∈ lw_all) (hd : decode cc pc = .ok (.checkcast idx, 3))
    (kk : W p l e R s m args below meth c H locs cells slots Q (F0 m (pc + 3) ls (.ref (ad k w i) :: rest))) : W p l e R s m args below meth c H locs cells slots Q (F0 m pc ls (.ref (ad k w i) :: rest)) :=
  va_castE hC.1 hC.2.1 hC.2.2.2.1 (hC.2.2.2.2.1 _ hlink) (g_recv hC hS hk hc hcl) hd kk
end GROWS
/-- a method's start: its arguments, the heap's size, the world -/
def mPc (av : List Value) (G : GG) (ks : List KY) (ad : AD) (V : VS) (sz : Nat) : Array Value → State → Prop := va_Pc av (fun U => U.heap.size = sz ∧ va_P G.1 vwCl (pic G ks ad V) U.heap ∧ gK G U ∧ gZ G (mA ks ad sz) U U.heap ∧ Dj (fun _ => True) ks ad)
abbrev mB (G : GG) (ks : List KY) (ad : AD) : VS → State → Prop := fun V t => va_P G.1 vwCl (pic G ks ad V) t.heap
def mQi (post : Int32 → VS → Prop) (G : GG) (ks : List KY) (ad : AD) (sz : Nat) : Array Value → State → Outcome → State → Prop := va_Qi post (mB G ks ad) (mA ks ad sz)
def mQl (post : Int64 → VS → Prop) (G : GG) (ks : List KY) (ad : AD) (sz : Nat) : Array Value → State → Outcome → State → Prop := va_Ql post (mB G ks ad) (mA ks ad sz)
def mQv (post : VS → Prop) (G : GG) (ks : List KY) (ad : AD) (sz : Nat) : Array Value → State → Outcome → State → Prop := va_Qv post (mB G ks ad) (mA ks ad sz)
def mQe (f : Nat → Nat) (post : Option Nat → VS → Prop) (G : GG) (ks : List KY) (ad : AD) (sz : Nat) : Array Value → State → Outcome → State → Prop := va_Qe f post (mB G ks ad) (mA ks ad sz)
theorem mPc_blind {av : List Value} {G : GG} {ks : List KY} {ad : AD} {V : VS} {sz : Nat} : FrameBlind (mPc av G ks ad V sz) := fun _ U g mk h => ⟨h.1, h.2.1, h.2.2.1, h.2.2.2.1.calling, gZ.go (Vm.Alike.refl U.vm) (fun _ _ _ => rfl) (fun _ z => z) h.2.2.2.2.1, h.2.2.2.2.2⟩
/-- a method from its entry -/
theorem g_met {l : Launch} {y : MethodName} {own : String} {cc : ByteArray} {maxL : Nat} {ret : Option FieldType} {rm : Room} {av : List Value} {G : GG} {ks : List KY} {ad : AD} {V : VS} {sz mc ms : Nat} {Qc : Array Value → State → Outcome → State → Prop}
    (hy : plainName y.cls = true) (hyo : y.cls = own) (hav : (lg_sl av).length ≤ maxL)
    (body : ∀ (p : Program) (e : Env) (s : State) (m : MethodId) (args : Array Value) (below : List Frame) (meth : Method) (c : Code) (ls : Array Slot), CX p s m args c cc maxL own G (mA ks ad sz) → s.heap.size = sz → meth.sig.returnType = ret → meth.locks = false → meth.name = y.name → ST G ks ad V (mA ks ad sz) s.heap s.heap [] → args = av.toArray → lv_has ls maxL (lv_args 0 av) →
      W p l e rm s m args below meth c s.heap [] 0 0 (MQ below Qc args s mc ms (mA ks ad sz)) (F0 m 0 ls [])) : Met l y (ws_ y cc maxL ret) rm (mPc av G ks ad V sz) Qc mc ms (mA ks ad sz) := by
  refine Met.ofW (cc := cc) (maxL := maxL) (ret := ret) hy rfl ?_
  intro p e s m args below meth c s₁ B hml hv
  obtain ⟨rfl, hsz, hP, hK, hZ, hD0⟩ := hv
  have hts := atoms_spec (ws := ws_ y cc maxL ret) B.pre
  have hown : s.vm.findClass own = some m.cls := by rw [← hyo]; exact findClass_of_methodNamed B.named
  have hin : meth.name = y.name := (name_of_methodNamed B.named B.method).1
  have hl := lv_entry av (n := maxL) hav
  rw [lg_entry_eq]
  generalize (lg_sl av ++ List.replicate (maxL - (lg_sl av).length) Slot.unset).toArray = ls at hl ⊢
  refine body p e s m _ below meth c ls ⟨B.exec, B.bytes, hml, hown, fun w hw => hts w (List.mem_cons_of_mem _ hw), hK, hZ⟩ hsz B.returns B.notSynchronized hin ⟨hP, va_S.rf, hD0.mA, fun q hq => Or.inr (by rw [← hsz]; exact hq)⟩ rfl hl
section GENDS
variable {p : Program} {l : Launch} {e : Env} {R : Room} {s : State} {m : MethodId} {args : Array Value} {below : List Frame} {meth : Method} {c : Code} {H : Heap} {locs : List Loc} {cells slots : Nat}
variable {cc : ByteArray} {pc nL sz : Nat} {own : String} {ls : Array Slot} {rest : List Value} {G : GG} {ks : List KY} {ad : AD} {V : VS}
theorem g_iret {post : Int32 → VS → Prop} {v : Int32} (hC : CX p s m args c cc nL own G (mA ks ad sz)) (hr : meth.sig.returnType = some .int) (hlk : meth.locks = false) (hS : ST G ks ad V (mA ks ad sz) s.heap H locs) (hp : post v V) (hd : decode cc pc = .ok (.ireturn, 1)) :
    W p l e R s m args below meth c H locs cells slots (MQ below (mQi post G ks ad sz) args s cells slots (mA ks ad sz)) (F0 m pc ls [.int v]) :=
  W.iret hC.1 hC.2.1 hr (fun t ht _ => ⟨⟨v, V, rfl, hp, by show va_P G.1 vwCl (pic G ks ad V) t.heap; rw [ht]; exact hS.1⟩, hS.2.1.F ht⟩) hS.2.1.2.2 hd hlk
theorem g_zret {post : Int32 → VS → Prop} {v : Int32} (hC : CX p s m args c cc nL own G (mA ks ad sz)) (hr : meth.sig.returnType = some .boolean) (hlk : meth.locks = false) (hS : ST G ks ad V (mA ks ad sz) s.heap H locs) (h01 : v = 0 ∨ v = 1) (hp : post v V) (hd : decode cc pc = .ok (.ireturn, 1)) :
    W p l e R s m args below meth c H locs cells slots (MQ below (mQi post G ks ad sz) args s cells slots (mA ks ad sz)) (F0 m pc ls [.int v]) :=
  W.zret hC.1 hC.2.1 hr (by rcases h01 with rfl | rfl <;> rfl) (fun t ht _ => ⟨⟨v, V, rfl, hp, by show va_P G.1 vwCl (pic G ks ad V) t.heap; rw [ht]; exact hS.1⟩, hS.2.1.F ht⟩) hS.2.1.2.2 hd hlk
theorem g_lret {post : Int64 → VS → Prop} {v : Int64} (hC : CX p s m args c cc nL own G (mA ks ad sz)) (hr : meth.sig.returnType = some .long) (hlk : meth.locks = false) (hS : ST G ks ad V (mA ks ad sz) s.heap H locs) (hp : post v V) (hd : decode cc pc = .ok (.lreturn, 1)) :
    W p l e R s m args below meth c H locs cells slots (MQ below (mQl post G ks ad sz) args s cells slots (mA ks ad sz)) (F0 m pc ls [.long v]) :=
  W.lret hC.1 hC.2.1 hr (fun t ht _ => ⟨⟨v, V, rfl, hp, by show va_P G.1 vwCl (pic G ks ad V) t.heap; rw [ht]; exact hS.1⟩, hS.2.1.F ht⟩) hS.2.1.2.2 hd hlk
theorem g_vret {post : VS → Prop} (hC : CX p s m args c cc nL own G (mA ks ad sz)) (hr : meth.sig.returnType = none) (hlk : meth.locks = false) (hS : ST G ks ad V (mA ks ad sz) s.heap H locs) (hp : post V) (hd : decode cc pc = .ok (.return_, 1)) :
    W p l e R s m args below meth c H locs cells slots (MQ below (mQv post G ks ad sz) args s cells slots (mA ks ad sz)) (F0 m pc ls []) :=
  W.vret hC.1 hC.2.1 hr (fun t ht _ => ⟨⟨V, rfl, hp, by show va_P G.1 vwCl (pic G ks ad V) t.heap; rw [ht]; exact hS.1⟩, hS.2.1.F ht⟩) hS.2.1.2.2 hd hlk
theorem g_aret {f : Nat → Nat} {post : Option Nat → VS → Prop} {r : Option Nat} {rt : FieldType} (hC : CX p s m args c cc nL own G (mA ks ad sz)) (hr : meth.sig.returnType = some rt) (hrt : (∃ n, rt = .object n) ∨ ∃ t, rt = .array t) (hlk : meth.locks = false) (hS : ST G ks ad V (mA ks ad sz) s.heap H locs) (hp : post r V) (hd : decode cc pc = .ok (.areturn, 1)) :
    W p l e R s m args below meth c H locs cells slots (MQ below (mQe f post G ks ad sz) args s cells slots (mA ks ad sz)) (F0 m pc ls [va_re f r]) :=
  W.aret hC.1 hC.2.1 hr hrt (by cases r with | none => exact Or.inl rfl | some a => exact Or.inr ⟨_, rfl⟩) (fun t ht _ => ⟨⟨r, V, rfl, hp, by show va_P G.1 vwCl (pic G ks ad V) t.heap; rw [ht]; exact hS.1⟩, hS.2.1.F ht⟩) hS.2.1.2.2 hd hlk
end GENDS
section GCALL
variable {p : Program} {l : Launch} {e : Env} {R : Room} {s : State} {m : MethodId} {args : Array Value} {below : List Frame} {meth : Method} {c : Code} {H : Heap} {locs : List Loc} {cells slots : Nat} {Q : State → Prop}
variable {cc : ByteArray} {pc nL : Nat} {own : String} {ls : Array Slot} {rest st0 : List Value} {G : GG} {ks : List KY} {ad : AD} {V : VS} {A : Nat → Prop}
theorem gI {own : String} {idx : Nat} {C : String} {y : MethodName} {cy : ByteArray} {n : Nat} {r : Option FieldType} (h1 : Cond.methodLink own idx y ∈ lw_all) (h2 : Cond.instanceMethod y ∈ lw_all) (h3 : Cond.selects C y y ∈ lw_all) (h4 : Cond.initialized C ∈ lw_all) (h5 : Cond.code y cy n r ∈ lw_all) : GoodIn lw_all (wsV own idx C y (ws_ y cy n r)) := by
  intro w hw
  simp only [wsV, List.cons_append, List.nil_append, List.mem_cons] at hw
  rcases hw with rfl | rfl | rfl | rfl | rfl | hw
  · exact lw_good _ h1
  · exact lw_good _ h2
  · exact lw_good _ h3
  · exact lw_good _ h4
  · exact lw_good _ h5
  · exact lw_good _ hw
theorem gIS {own : String} {idx : Nat} {y : MethodName} {cy : ByteArray} {n : Nat} {r : Option FieldType} (h1 : Cond.methodLink own idx y ∈ lw_all) (h2 : Cond.static y ∈ lw_all) (h4 : Cond.initialized y.cls ∈ lw_all) (h5 : Cond.code y cy n r ∈ lw_all) : GoodIn lw_all (va_wsS own idx y (ws_ y cy n r)) := by
  intro w hw
  simp only [va_wsS, List.cons_append, List.nil_append, List.mem_cons] at hw
  rcases hw with rfl | rfl | rfl | rfl | hw
  · exact lw_good _ h1
  · exact lw_good _ h2
  · exact lw_good _ h4
  · exact lw_good _ h5
  · exact lw_good _ hw
theorem ST.callA {ks : List KY} {ad : AD} (hS : ST G ks ad V A s.heap H locs) : ∀ q, mA ks ad H.size q → A q := by
  intro q h
  rcases h with ⟨x, hx, rfl⟩ | h
  · exact hS.2.2.1.2 x hx
  · exact hS.2.2.2 q (Nat.le_trans hS.2.1.1 h)
theorem g_pre (hC : CX p s m args c cc nL own G A) (hS : ST G ks ad V A s.heap H locs) {av : List Value} : ∀ U : State, U.heap = H → s.WarmedH U.vm → mPc av G ks ad V H.size av.toArray U :=
  fun U hU hW => ⟨rfl, by rw [hU], by rw [hU]; exact hS.1, hC.2.2.2.2.2.1.warm hW, by rw [hU]; exact gZ.go hW.alike hS.2.1.2.1 hS.callA hC.2.2.2.2.2.2, hS.2.2.1.all⟩
/-- what a callee's name, bytes, room and number of arguments must be -/
abbrev mY (R : Room) (y : MethodName) (maxL n : Nat) (rm : Room) (mc ms : Nat) : Prop := (y.cls ≠ "java/lang/invoke/MethodHandle" ∧ y.cls ≠ "java/lang/invoke/VarHandle" ∧ (parseMethodDescriptor y.desc).map (fun d => d.parameters.length) = some n) ∧ rm.cells = mc ∧ rm.slots = ms ∧ rm.frames + 1 ≤ R.frames ∧ 8 + (maxL + 11) + rm.locals ≤ R.locals
theorem g_runV (hC : CX p s m args c cc nL own G A) (hS : ST G ks ad V A s.heap H locs) {y : MethodName} {cy : ByteArray} {idx maxL n mc ms k w i ci N : Nat} {ret : Option FieldType} {rm : Room} {C : String} {T : u_T} {fs As : List Value} {Qc : Array Value → State → Outcome → State → Prop} {lv : List (Nat × Value)}
    (hk : (k, w, i) ∈ ks) (hc : cE G ad V k w i = .inr (ci, fs)) (hcl : vwCl[ci]? = some (C, T, N))
    (hM : Met l y (ws_ y cy maxL ret) rm (mPc (.ref (ad k w i) :: As) G ks ad V H.size) Qc mc ms (mA ks ad H.size))
    (hG : GoodIn lw_all (wsV own idx C y (ws_ y cy maxL ret))) (hyC : y.cls = C) (hY : mY R y maxL n rm mc ms) (hn : As.length = n) (hl : lv_has ls nL lv) (hst : st0 = As.reverse ++ .ref (ad k w i) :: rest) (hrest : (rest.map fun v => v.category).sum ≤ 8)
    (hd : decode cc pc = .ok (.invokevirtual idx, 3)) (hf : cells + mc ≤ R.cells ∧ slots + ms ≤ R.slots) :
    va_Run p l e R s m args below meth c H locs cells slots mc ms (F0 m pc ls st0) rest (Qc (Value.ref (ad k w i) :: As).toArray) (mA ks ad H.size) :=
  va_runV (C := C) ⟨hC.1, hC.2.1, hC.2.2.1, hC.2.2.2.1, hC.2.2.2.2.1⟩ hM (cwV n hC.2.2.2.2.1 hG rfl hY.2.1 hY.2.2.1 ⟨hyC, hY.1⟩ hY.2.2.2) ⟨mPc_blind, g_recv hC hS hk hc hcl, g_pre hC hS⟩ rfl hn hl.1 hst (lv_room hrest) hd hf
theorem g_runS (hC : CX p s m args c cc nL own G A) (hS : ST G ks ad V A s.heap H locs) {y : MethodName} {cy : ByteArray} {idx maxL n mc ms : Nat} {ret : Option FieldType} {rm : Room} {As : List Value} {Qc : Array Value → State → Outcome → State → Prop} {lv : List (Nat × Value)}
    (hM : Met l y (ws_ y cy maxL ret) rm (mPc As G ks ad V H.size) Qc mc ms (mA ks ad H.size))
    (hG : GoodIn lw_all (va_wsS own idx y (ws_ y cy maxL ret))) (hY : mY R y maxL n rm mc ms) (hn : As.length = n) (hl : lv_has ls nL lv) (hst : st0 = As.reverse ++ rest) (hrest : (rest.map fun v => v.category).sum ≤ 8)
    (hd : decode cc pc = .ok (.invokestatic idx, 3)) (hf : cells + mc ≤ R.cells ∧ slots + ms ≤ R.slots) :
    va_Run p l e R s m args below meth c H locs cells slots mc ms (F0 m pc ls st0) rest (Qc As.toArray) (mA ks ad H.size) :=
  va_runS ⟨hC.1, hC.2.1, hC.2.2.1, hC.2.2.2.1, hC.2.2.2.2.1⟩ hM (va_cwS n hC.2.2.2.2.1 hG rfl hY.2.1 hY.2.2.1 hY.1 hY.2.2.2) ⟨mPc_blind, g_pre hC hS⟩ rfl hn hl.1 hst (lv_room hrest) hd hf
theorem g_runSN (hC : CX p s m args c cc nL own G A) (hS : ST G ks ad V A s.heap H locs) {y : MethodName} {cy : ByteArray} {idx maxL n mc ms : Nat} {ret : Option FieldType} {rm : Room} {host : String} {As : List Value} {Qc : Array Value → State → Outcome → State → Prop} {lv : List (Nat × Value)}
    (hM : Met l y (ws_ y cy maxL ret) rm (mPc As G ks ad V H.size) Qc mc ms (mA ks ad H.size))
    (hlk : Cond.methodLinkNest own idx y host ∈ lw_tbl) (hst9 : Cond.static y ∈ lw_all) (hini : Cond.initialized y.cls ∈ lw_all) (hcd : Cond.code y cy maxL ret ∈ lw_all) (hY : mY R y maxL n rm mc ms) (hn : As.length = n) (hl : lv_has ls nL lv) (hst : st0 = As.reverse ++ rest) (hrest : (rest.map fun v => v.category).sum ≤ 8)
    (hd : decode cc pc = .ok (.invokestatic idx, 3)) (hf : cells + mc ≤ R.cells ∧ slots + ms ≤ R.slots) :
    va_Run p l e R s m args below meth c H locs cells slots mc ms (F0 m pc ls st0) rest (Qc As.toArray) (mA ks ad H.size) :=
  va_runSN ⟨hC.1, hC.2.1, hC.2.2.1, hC.2.2.2.1, hC.2.2.2.2.1⟩ hM ⟨va_cnB n hC.2.2.2.2.1 (lw_good_ws hcd) rfl hY.2.1 hY.2.2.1 (hC.2.2.2.2.2.1.2.1 _ hlk rfl) (hC.2.2.2.2.1 _ hini) hY.1 hY.2.2.2, hC.2.2.2.2.1 _ hst9, trivial⟩ ⟨mPc_blind, g_pre hC hS⟩ rfl hn hl.1 hst (lv_room hrest) hd hf
variable {mc ms : Nat} {a : Array Value}
theorem g_calli {post : Int32 → VS → Prop} (hS : ST G ks ad V A s.heap H locs) (hr : va_Run p l e R s m args below meth c H locs cells slots mc ms (F0 m pc ls st0) rest (mQi post G ks ad H.size a) (mA ks ad H.size))
    (kk : ∀ (r : Int32) (V1 : VS) (H1 : Heap) (locs1 : List Loc), post r V1 → ST G ks ad V1 A s.heap H1 locs1 → W p l e R s m args below meth c H1 locs1 (cells + mc) (slots + ms) Q (F0 m (pc + 3) ls (.int r :: rest))) : W p l e R s m args below meth c H locs cells slots Q (F0 m pc ls st0) :=
  va_calli hr hS.2.1 (fun q _ h => hS.callA q h) hS.callA (fun r u t H1 locs1 ht _ hp hB _ _ hS1 => kk r u H1 locs1 hp ⟨by rw [← ht]; exact hB, hS1, hS.2.2.1, hS.2.2.2⟩)
theorem g_calll {post : Int64 → VS → Prop} (hS : ST G ks ad V A s.heap H locs) (hr : va_Run p l e R s m args below meth c H locs cells slots mc ms (F0 m pc ls st0) rest (mQl post G ks ad H.size a) (mA ks ad H.size))
    (kk : ∀ (r : Int64) (V1 : VS) (H1 : Heap) (locs1 : List Loc), post r V1 → ST G ks ad V1 A s.heap H1 locs1 → W p l e R s m args below meth c H1 locs1 (cells + mc) (slots + ms) Q (F0 m (pc + 3) ls (.long r :: rest))) : W p l e R s m args below meth c H locs cells slots Q (F0 m pc ls st0) :=
  va_calll hr hS.2.1 (fun q _ h => hS.callA q h) hS.callA (fun r u t H1 locs1 ht _ hp hB _ _ hS1 => kk r u H1 locs1 hp ⟨by rw [← ht]; exact hB, hS1, hS.2.2.1, hS.2.2.2⟩)
theorem g_callv {post : VS → Prop} (hS : ST G ks ad V A s.heap H locs) (hr : va_Run p l e R s m args below meth c H locs cells slots mc ms (F0 m pc ls st0) rest (mQv post G ks ad H.size a) (mA ks ad H.size))
    (kk : ∀ (V1 : VS) (H1 : Heap) (locs1 : List Loc), post V1 → ST G ks ad V1 A s.heap H1 locs1 → W p l e R s m args below meth c H1 locs1 (cells + mc) (slots + ms) Q (F0 m (pc + 3) ls rest)) : W p l e R s m args below meth c H locs cells slots Q (F0 m pc ls st0) :=
  va_callv hr hS.2.1 (fun q _ h => hS.callA q h) hS.callA (fun u t H1 locs1 ht _ hp hB _ _ hS1 => kk u H1 locs1 hp ⟨by rw [← ht]; exact hB, hS1, hS.2.2.1, hS.2.2.2⟩)
theorem g_calle {f : Nat → Nat} {post : Option Nat → VS → Prop} (hS : ST G ks ad V A s.heap H locs) (hr : va_Run p l e R s m args below meth c H locs cells slots mc ms (F0 m pc ls st0) rest (mQe f post G ks ad H.size a) (mA ks ad H.size))
    (kk : ∀ (r : Option Nat) (V1 : VS) (H1 : Heap) (locs1 : List Loc), post r V1 → ST G ks ad V1 A s.heap H1 locs1 → W p l e R s m args below meth c H1 locs1 (cells + mc) (slots + ms) Q (F0 m (pc + 3) ls (va_re f r :: rest))) : W p l e R s m args below meth c H locs cells slots Q (F0 m pc ls st0) :=
  va_calle hr hS.2.1 (fun q _ h => hS.callA q h) hS.callA (fun r u t H1 locs1 ht _ hp hB _ _ hS1 => kk r u H1 locs1 hp ⟨by rw [← ht]; exact hB, hS1, hS.2.2.1, hS.2.2.2⟩)
end GCALL
section GCALL0
variable {p : Program} {l : Launch} {e : Env} {R : Room} {s : State} {m : MethodId} {args : Array Value} {below : List Frame} {meth : Method} {c : Code} {H : Heap} {locs : List Loc} {cells slots : Nat} {Q : State → Prop}
variable {cc : ByteArray} {pc nL : Nat} {own : String} {ls : Array Slot} {rest st0 : List Value} {G : GG} {ks : List KY} {ad : AD} {V : VS} {A : Nat → Prop} {a : Array Value}
theorem g_calli0 {post : Int32 → VS → Prop} (hS : ST G ks ad V A s.heap H locs) (hr : va_Run p l e R s m args below meth c H locs cells slots 0 0 (F0 m pc ls st0) rest (mQi post G ks ad H.size a) (mA ks ad H.size))
    (kk : ∀ (r : Int32) (V1 : VS) (H1 : Heap) (locs1 : List Loc), post r V1 → ST G ks ad V1 A s.heap H1 locs1 → W p l e R s m args below meth c H1 locs1 cells slots Q (F0 m (pc + 3) ls (.int r :: rest))) : W p l e R s m args below meth c H locs cells slots Q (F0 m pc ls st0) := g_calli hS hr kk
theorem g_calll0 {post : Int64 → VS → Prop} (hS : ST G ks ad V A s.heap H locs) (hr : va_Run p l e R s m args below meth c H locs cells slots 0 0 (F0 m pc ls st0) rest (mQl post G ks ad H.size a) (mA ks ad H.size))
    (kk : ∀ (r : Int64) (V1 : VS) (H1 : Heap) (locs1 : List Loc), post r V1 → ST G ks ad V1 A s.heap H1 locs1 → W p l e R s m args below meth c H1 locs1 cells slots Q (F0 m (pc + 3) ls (.long r :: rest))) : W p l e R s m args below meth c H locs cells slots Q (F0 m pc ls st0) := g_calll hS hr kk
theorem g_callv0 {post : VS → Prop} (hS : ST G ks ad V A s.heap H locs) (hr : va_Run p l e R s m args below meth c H locs cells slots 0 0 (F0 m pc ls st0) rest (mQv post G ks ad H.size a) (mA ks ad H.size))
    (kk : ∀ (V1 : VS) (H1 : Heap) (locs1 : List Loc), post V1 → ST G ks ad V1 A s.heap H1 locs1 → W p l e R s m args below meth c H1 locs1 cells slots Q (F0 m (pc + 3) ls rest)) : W p l e R s m args below meth c H locs cells slots Q (F0 m pc ls st0) := g_callv hS hr kk
theorem g_calle0 {f : Nat → Nat} {post : Option Nat → VS → Prop} (hS : ST G ks ad V A s.heap H locs) (hr : va_Run p l e R s m args below meth c H locs cells slots 0 0 (F0 m pc ls st0) rest (mQe f post G ks ad H.size a) (mA ks ad H.size))
    (kk : ∀ (r : Option Nat) (V1 : VS) (H1 : Heap) (locs1 : List Loc), post r V1 → ST G ks ad V1 A s.heap H1 locs1 → W p l e R s m args below meth c H1 locs1 cells slots Q (F0 m (pc + 3) ls (va_re f r :: rest))) : W p l e R s m args below meth c H locs cells slots Q (F0 m pc ls st0) := g_calle hS hr kk
end GCALL0
/-- a whole row anew -/
def vrow (V : VS) (k w i : Nat) (f : Nat → Int32) : VS := fun k' w' i' f' j' => if k' = k ∧ w' = w ∧ i' = i ∧ f' = 0 then f j' else V k' w' i' f' j'
theorem vrow_ne {V : VS} {k w i : Nat} {f : Nat → Int32} {k' w' i' : Nat} (h : ¬ (k' = k ∧ w' = w ∧ i' = i)) : vrow V k w i f k' w' i' = V k' w' i' := by
  funext f' j'
  unfold vrow
  rw [if_neg (fun z => h ⟨z.1, z.2.1, z.2.2.1⟩)]
theorem vrow_eq {V : VS} {k w i : Nat} {f : Nat → Int32} : vrow V k w i f k w i 0 = f := by
  funext j
  unfold vrow
  rw [if_pos ⟨rfl, rfl, rfl, rfl⟩]
theorem ce_otherR {G : GG} {ad : AD} {V : VS} {k w i : Nat} {f : Nat → Int32} (hk2 : k ≠ 2) {k' w' i' : Nat} (h : ¬ (k' = k ∧ w' = w ∧ i' = i)) : cE G ad (vrow V k w i f) k' w' i' = cE G ad V k' w' i' := by
  unfold cE lsz
  rw [vrow_ne h, vrow_ne (V := V) (k := k) (w := w) (i := i) (f := f) (k' := 2) (w' := w') (i' := i') (fun z => hk2 z.1.symm)]
section GCOPY
variable {p : Program} {l : Launch} {e : Env} {R : Room} {s : State} {m : MethodId} {args : Array Value} {below : List Frame} {meth : Method} {c : Code} {H : Heap} {locs : List Loc} {cells slots : Nat} {Q : State → Prop}
variable {cc : ByteArray} {pc nL : Nat} {own : String} {ls : Array Slot} {rest : List Value} {G : GG} {ks : List KY} {ad : AD} {V : VS} {A : Nat → Prop} {H0 : Heap} {lv : List (Nat × Value)}
theorem g_acopy (hC : CX p s m args c cc nL own G A) (hS : ST G ks ad V A H0 H locs) (hl : lv_has ls nL lv) {k w i k1 w1 i1 idx : Nat} {sp dp n : Int32} (hk : (k, w, i) ∈ ks) (hk1 : (k1, w1, i1) ∈ ks) (ha : 0 < aLen k) (ha1 : 0 < aLen k1) (h1 : ¬ sp < 0) (h2 : ¬ dp < 0) (h3 : ¬ n < 0) (h4 : sp.toNatClampNeg + n.toNatClampNeg ≤ aLen k) (h5 : dp.toNatClampNeg + n.toNatClampNeg ≤ aLen k1)
    (hlink : Cond.methodLink own idx arraycopyName ∈ lw_all) (hnat : Cond.native arraycopyName ∈ lw_all) (hst : Cond.static arraycopyName ∈ lw_all) (hini : Cond.initialized "java/lang/System" ∈ lw_all) (hR : 1 ≤ R.frames ∧ (rest.map fun v => v.category).sum + (nativeFrameWords "java/lang/System" "arraycopy" 5 + 11) ≤ R.locals) (hd : decode cc pc = .ok (.invokestatic idx, 3))
    (kk : ∀ (H1 : Heap) (locs1 : List Loc), ST G ks ad (vrow V k1 w1 i1 (va_cpy (V k w i 0) (V k1 w1 i1 0) sp.toNatClampNeg dp.toNatClampNeg n.toNatClampNeg)) A H0 H1 locs1 → W p l e R s m args below meth c H1 locs1 cells slots Q (F0 m (pc + 3) ls rest)) : W p l e R s m args below meth c H locs cells slots Q (F0 m pc ls (.int n :: .int dp :: .ref (ad k1 w1 i1) :: .int sp :: .ref (ad k w i) :: rest)) := by
  obtain ⟨hx, hb, hml, hown, hts, hK, hZ9⟩ := hC
  obtain ⟨hP, hS1, hD, hA⟩ := hS
  obtain ⟨q0, hq⟩ := List.getElem?_of_mem hk
  obtain ⟨q1, hq1⟩ := List.getElem?_of_mem hk1
  have he := at_pic (G := G) (ad := ad) (V := V) hq
  have he1 := at_pic (G := G) (ad := ad) (V := V) hq1
  rw [ce_ary ha] at he
  rw [ce_ary ha1] at he1
  have hk2 : k1 ≠ 2 := fun z => by subst z; exact absurd ha1 (by decide)
  refine va_copyi hx hb (hml.trans hl.1.symm) hown (hts _ hlink) (hts _ hnat) (hts _ hst) (hts _ hini) hK.1 hP hD.D hS1 q0 q1 0 0 he he1 rfl rfl rfl h1 h2 h3 h4 h5 (fun _ _ => rfl) hR.1 hR.2 hd (fun H1 locs1 hP1 _ hS2 => ?_)
  rw [pic_set hD hq1 (by rw [ce_ary ha1, vrow_eq]) (fun k' w' i' h => ce_otherR hk2 h)] at hP1
  exact kk H1 locs1 ⟨hP1, hS2, hD, hA⟩
end GCOPY
