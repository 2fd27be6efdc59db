/-! pure: the fields of a van; where class and model keep them -/
def itn {α : Type} (f : Nat → α → α) : Nat → α → α
  | 0, a => a
  | n + 1, a => f n (itn f n a)
abbrev AF : Type := Nat → Nat → Nat → Int32
def au (A : AF) (f i j : Nat) (x : Int32) : AF := fun f' i' j' => if f' = f ∧ i' = i ∧ j' = j then x else A f' i' j'
theorem au_at {A : AF} {f i j : Nat} {x : Int32} : au A f i j x f i j = x := if_pos ⟨rfl, rfl, rfl⟩
theorem au_f {A : AF} {f i j f' i' j' : Nat} {x : Int32} (h : f' ≠ f) : au A f i j x f' i' j' = A f' i' j' := if_neg (fun z => h z.1)
theorem au_i {A : AF} {f i j f' i' j' : Nat} {x : Int32} (h : i' ≠ i) : au A f i j x f' i' j' = A f' i' j' := if_neg (fun z => h z.2.1)
theorem au_j {A : AF} {f i j f' i' j' : Nat} {x : Int32} (h : j' ≠ j) : au A f i j x f' i' j' = A f' i' j' := if_neg (fun z => h z.2.2)
theorem au_ne {A : AF} {f i j f' i' j' : Nat} {x : Int32} (h : ¬ (f' = f ∧ i' = i ∧ j' = j)) : au A f i j x f' i' j' = A f' i' j' := if_neg h
/-- the class's slots: 0 day, 1 used, 2 mud, 3 served, 4 missed, 5 holder, 6 since, 7 lent, 8 in the queue, 9 the queue, 10 read, 11 pence, 12 loans, 13 has, 14 round, 15 its halts -/
def cfld (k f : Nat) : Nat := match k, f with
  | 1, 7 => 0
  | 1, 8 => 1
  | 4, 0 => 3
  | 4, 1 => 4
  | 5, 4 => 2
  | 6, 3 => 5
  | 6, 4 => 6
  | 6, 5 => 7
  | 8, 1 => 8
  | 9, 0 => 9
  | 7, 5 => 10
  | 7, 6 => 11
  | 7, 7 => 12
  | 7, 4 => 13
  | 13, 0 => 14
  | 12, 1 => 15
  | _, _ => 99
def cinv (a : Nat) : Nat × Nat := match a with
  | 0 => (1, 7)
  | 1 => (1, 8)
  | 3 => (4, 0)
  | 4 => (4, 1)
  | 2 => (5, 4)
  | 5 => (6, 3)
  | 6 => (6, 4)
  | 7 => (6, 5)
  | 8 => (8, 1)
  | 9 => (9, 0)
  | 10 => (7, 5)
  | 11 => (7, 6)
  | 12 => (7, 7)
  | 13 => (7, 4)
  | 14 => (13, 0)
  | _ => (12, 1)
theorem cfld_inv {k f : Nat} (h : cfld k f ≠ 99) : cinv (cfld k f) = (k, f) := by
  unfold cfld at h ⊢
  split at h <;> first | rfl | exact absurd rfl h
theorem cfld_inj {k f k' f' : Nat} (h : cfld k f ≠ 99) (e : cfld k' f' = cfld k f) : k' = k ∧ f' = f := by
  have h1 := cfld_inv h
  have h2 := cfld_inv (show cfld k' f' ≠ 99 by rw [e]; exact h)
  rw [e, h1] at h2
  exact ⟨(congrArg Prod.fst h2).symm, (congrArg Prod.snd h2).symm⟩
/-- which of them are there: N 0 halts, N 1 lanes, N 2 books, N 3 readers -/
def cok (N : Nat → Nat) (k i j : Nat) : Bool := match k with
  | 1 => decide (i = 0 ∧ j = 0)
  | 4 => decide (i < N 0 ∧ j = 0)
  | 5 => decide (i < N 1 ∧ j = 0)
  | 6 => decide (i < N 2 ∧ j = 0)
  | 7 => decide (i < N 3 ∧ j = 0)
  | 8 => decide (i < N 2 ∧ j = 0)
  | 9 => decide (i < N 2 ∧ j < 10)
  | 12 => decide (i = 0 ∧ j = 0)
  | 13 => decide (i = 0 ∧ j < 8)
  | _ => false
/-- the world w of the class, with the fields A and the times D -/
def cput (N : Nat → Nat) (w : Nat) (A : AF) (D : Nat → Int32) (V : VS) : VS := fun k w' i f j =>
  if w' = w ∧ cfld k f ≠ 99 ∧ cok N k i j = true then A (cfld k f) i j else if k = 11 ∧ w' = w ∧ i = 0 ∧ f = 0 then D j else V k w' i f j
theorem cput_r {N : Nat → Nat} {w : Nat} {A : AF} {D : Nat → Int32} {V : VS} {k i f j a : Nat} (ha : a ≠ 99) (h : cfld k f = a) (h2 : cok N k i j = true) : cput N w A D V k w i f j = A a i j := by
  subst h
  exact if_pos ⟨rfl, ha, h2⟩
theorem cput_t {N : Nat → Nat} {w : Nat} {A : AF} {D : Nat → Int32} {V : VS} {j : Nat} : cput N w A D V 11 w 0 0 j = D j := by
  unfold cput
  rw [if_neg (fun z => z.2.1 rfl), if_pos ⟨rfl, rfl, rfl, rfl⟩]
theorem cput_o {N : Nat → Nat} {w : Nat} {A : AF} {D : Nat → Int32} {V : VS} {k w' i f j : Nat} (h : cfld k f = 99) (h2 : k ≠ 11) : cput N w A D V k w' i f j = V k w' i f j := by
  unfold cput
  rw [if_neg (fun z => z.2.1 h), if_neg (fun z => h2 z.1)]
theorem cput_ne {N : Nat → Nat} {w : Nat} {A : AF} {D : Nat → Int32} {V : VS} {k w' i f j : Nat} (h : w' ≠ w) : cput N w A D V k w' i f j = V k w' i f j := by
  unfold cput
  rw [if_neg (fun z => h z.1), if_neg (fun z => h z.2.1)]
theorem cput_w {N : Nat → Nat} {w : Nat} {A : AF} {D : Nat → Int32} {V : VS} {k i f j a : Nat} {x : Int32} (ha : a ≠ 99) (h : cfld k f = a) (h2 : cok N k i j = true) : vup (cput N w A D V) k w i f j x = cput N w (au A a i j x) D V := by
  subst h
  funext k' w' i' f' j'
  unfold vup cput au
  by_cases c : w' = w ∧ cfld k' f' ≠ 99 ∧ cok N k' i' j' = true
  · rw [if_pos c, if_pos c]
    by_cases e : cfld k' f' = cfld k f
    · obtain ⟨rfl, rfl⟩ := cfld_inj ha e
      by_cases e2 : i' = i ∧ j' = j
      · rw [if_pos ⟨rfl, c.1, e2.1, rfl, e2.2⟩, if_pos ⟨rfl, e2.1, e2.2⟩]
      · rw [if_neg (fun z => e2 ⟨z.2.2.1, z.2.2.2.2⟩), if_neg (fun z => e2 z.2)]
    · rw [if_neg (fun z => e (by rw [z.1, z.2.2.2.1])), if_neg (fun z => e z.1)]
  · rw [if_neg c, if_neg c, if_neg (fun z => c ⟨z.2.1, by rw [z.1, z.2.2.2.1]; exact ha, by rw [z.1, z.2.2.1, z.2.2.2.2]; exact h2⟩)]
theorem cput_wt {N : Nat → Nat} {w : Nat} {A : AF} {D : Nat → Int32} {V : VS} {j : Nat} {x : Int32} : vup (cput N w A D V) 11 w 0 0 j x = cput N w A (upd D j x) V := by
  funext k' w' i' f' j'
  unfold vup cput upd
  by_cases c : w' = w ∧ cfld k' f' ≠ 99 ∧ cok N k' i' j' = true
  · rw [if_pos c, if_pos c, if_neg (fun z => by rw [z.1] at c; exact c.2.1 rfl)]
  · rw [if_neg c, if_neg c]
    by_cases c2 : k' = 11 ∧ w' = w ∧ i' = 0 ∧ f' = 0
    · rw [if_pos c2, if_pos c2]
      by_cases c3 : j' = j
      · rw [if_pos ⟨c2.1, c2.2.1, c2.2.2.1, c2.2.2.2, c3⟩, if_pos c3]
      · rw [if_neg (fun z => c3 z.2.2.2.2), if_neg c3]
    · rw [if_neg c2, if_neg c2, if_neg (fun z => c2 ⟨z.1, z.2.1, z.2.2.1, z.2.2.2.1⟩)]
theorem cput_ext {N : Nat → Nat} {w : Nat} {A A' : AF} {D : Nat → Int32} {V : VS} (h : ∀ f i j, f ≠ 16 → f ≠ 17 → A f i j = A' f i j) : cput N w A D V = cput N w A' D V := by
  funext k w' i f j
  unfold cput
  by_cases c : w' = w ∧ cfld k f ≠ 99 ∧ cok N k i j = true
  · rw [if_pos c, if_pos c]
    have hh := c.2.1
    refine h _ _ _ ?_ ?_ <;> · unfold cfld at hh ⊢; split at hh <;> first | decide | exact absurd rfl hh
  · rw [if_neg c, if_neg c]
/-- the model's slots; 16 its loans in all, 17 its since -/
def mfld (k f : Nat) : Nat := match k, f with
  | 16, 0 => 0
  | 16, 1 => 1
  | 16, 2 => 16
  | 16, 5 => 15
  | 22, 0 => 2
  | 23, 0 => 14
  | 24, 0 => 3
  | 25, 0 => 4
  | 26, 0 => 5
  | 27, 0 => 17
  | 28, 0 => 7
  | 29, 0 => 9
  | 30, 0 => 8
  | 31, 0 => 10
  | 32, 0 => 11
  | 33, 0 => 12
  | _, _ => 99
def minv (a : Nat) : Nat × Nat := match a with
  | 0 => (16, 0)
  | 1 => (16, 1)
  | 16 => (16, 2)
  | 15 => (16, 5)
  | 2 => (22, 0)
  | 14 => (23, 0)
  | 3 => (24, 0)
  | 4 => (25, 0)
  | 5 => (26, 0)
  | 17 => (27, 0)
  | 7 => (28, 0)
  | 9 => (29, 0)
  | 8 => (30, 0)
  | 10 => (31, 0)
  | 11 => (32, 0)
  | _ => (33, 0)
theorem mfld_inv {k f : Nat} (h : mfld k f ≠ 99) : minv (mfld k f) = (k, f) := by
  unfold mfld at h ⊢
  split at h <;> first | rfl | exact absurd rfl h
theorem mfld_inj {k f k' f' : Nat} (h : mfld k f ≠ 99) (e : mfld k' f' = mfld k f) : k' = k ∧ f' = f := by
  have h1 := mfld_inv h
  have h2 := mfld_inv (show mfld k' f' ≠ 99 by rw [e]; exact h)
  rw [e, h1] at h2
  exact ⟨(congrArg Prod.fst h2).symm, (congrArg Prod.snd h2).symm⟩
def mi (k j : Nat) : Nat := if k = 16 ∨ k = 23 then 0 else if k = 29 then j / 10 else j
def mj (k j : Nat) : Nat := if k = 16 ∨ k = 23 then j else if k = 29 then j % 10 else 0
theorem mij_inj {k j j' : Nat} (h : mi k j' = mi k j) (h2 : mj k j' = mj k j) : j' = j := by
  unfold mi at h
  unfold mj at h2
  split at h
  · next c => rw [if_pos c, if_pos c] at h2; exact h2
  · next c =>
    rw [if_neg c, if_neg c] at h2
    split at h
    · next c => rw [if_pos c, if_pos c] at h2; omega
    · exact h
/-- the places of its arrays -/
def mok (k j : Nat) : Bool := decide ((k = 16 ∧ j = 0) ∨ j < aLen k)
/-- the state t of the model, with the fields A and the times T -/
def mput (t : Nat) (A : AF) (T : Nat → Int32) (V : VS) : VS := fun k w' i f j =>
  if w' = t ∧ i = 0 ∧ mfld k f ≠ 99 ∧ mok k j = true then A (mfld k f) (mi k j) (mj k j) else if k = 21 ∧ w' = 0 ∧ i = 0 ∧ f = 0 then T j else V k w' i f j
theorem mput_r {t : Nat} {A : AF} {T : Nat → Int32} {V : VS} {k f j a i' j' : Nat} (ha : a ≠ 99) (h : mfld k f = a) (ho : mok k j = true) (h2 : mi k j = i') (h3 : mj k j = j') : mput t A T V k t 0 f j = A a i' j' := by
  subst h h2 h3
  exact if_pos ⟨rfl, rfl, ha, ho⟩
theorem mput_t {t : Nat} {A : AF} {T : Nat → Int32} {V : VS} {j : Nat} : mput t A T V 21 0 0 0 j = T j := by
  unfold mput
  rw [if_neg (fun z => z.2.2.1 rfl), if_pos ⟨rfl, rfl, rfl, rfl⟩]
theorem mput_o {t : Nat} {A : AF} {T : Nat → Int32} {V : VS} {k w' i f j : Nat} (h : mfld k f = 99) (h2 : k ≠ 21) : mput t A T V k w' i f j = V k w' i f j := by
  unfold mput
  rw [if_neg (fun z => z.2.2.1 h), if_neg (fun z => h2 z.1)]
theorem mput_ne {t : Nat} {A : AF} {T : Nat → Int32} {V : VS} {k w' i f j : Nat} (h : w' ≠ t) (h2 : k ≠ 21) : mput t A T V k w' i f j = V k w' i f j := by
  unfold mput
  rw [if_neg (fun z => h z.1), if_neg (fun z => h2 z.1)]
theorem mput_w {t : Nat} {A : AF} {T : Nat → Int32} {V : VS} {k f j a i' j' : Nat} {x : Int32} (ha : a ≠ 99) (h : mfld k f = a) (ho : mok k j = true) (h2 : mi k j = i') (h3 : mj k j = j') : vup (mput t A T V) k t 0 f j x = mput t (au A a i' j' x) T V := by
  subst h h2 h3
  funext k' w' i0 f' j0
  unfold vup mput au
  by_cases c : w' = t ∧ i0 = 0 ∧ mfld k' f' ≠ 99 ∧ mok k' j0 = true
  · rw [if_pos c, if_pos c]
    by_cases e : mfld k' f' = mfld k f
    · obtain ⟨rfl, rfl⟩ := mfld_inj ha e
      by_cases e2 : j0 = j
      · subst e2
        rw [if_pos ⟨rfl, c.1, c.2.1, rfl, rfl⟩, if_pos ⟨rfl, rfl, rfl⟩]
      · rw [if_neg (fun z => e2 z.2.2.2.2), if_neg (fun z => e2 (mij_inj z.2.1 z.2.2))]
    · rw [if_neg (fun z => e (by rw [z.1, z.2.2.2.1])), if_neg (fun z => e z.1)]
  · rw [if_neg c, if_neg c, if_neg (fun z => c ⟨z.2.1, z.2.2.1, by rw [z.1, z.2.2.2.1]; exact ha, by rw [z.1, z.2.2.2.2]; exact ho⟩)]
theorem mput_wt {t : Nat} {A : AF} {T : Nat → Int32} {V : VS} {j : Nat} {x : Int32} : vup (mput t A T V) 21 0 0 0 j x = mput t A (upd T j x) V := by
  funext k' w' i' f' j'
  unfold vup mput upd
  by_cases c : w' = t ∧ i' = 0 ∧ mfld k' f' ≠ 99 ∧ mok k' j' = true
  · rw [if_pos c, if_pos c, if_neg (fun z => by rw [z.1] at c; exact c.2.2.1 rfl)]
  · rw [if_neg c, if_neg c]
    by_cases c2 : k' = 21 ∧ w' = 0 ∧ i' = 0 ∧ f' = 0
    · rw [if_pos c2, if_pos c2]
      by_cases c3 : j' = j
      · rw [if_pos ⟨c2.1, c2.2.1, c2.2.2.1, c2.2.2.2, c3⟩, if_pos c3]
      · rw [if_neg (fun z => c3 z.2.2.2.2), if_neg c3]
    · rw [if_neg c2, if_neg c2, if_neg (fun z => c2 ⟨z.1, z.2.1, z.2.2.1, z.2.2.2.1⟩)]
theorem mput_ext {t : Nat} {A A' : AF} {T : Nat → Int32} {V : VS} (h : ∀ f i j, f ≠ 6 → f ≠ 13 → A f i j = A' f i j) : mput t A T V = mput t A' T V := by
  funext k w' i f j
  unfold mput
  by_cases c : w' = t ∧ i = 0 ∧ mfld k f ≠ 99 ∧ mok k j = true
  · rw [if_pos c, if_pos c]
    have hh := c.2.2.1
    refine h _ _ _ ?_ ?_ <;> · unfold mfld at hh ⊢; split at hh <;> first | decide | exact absurd rfl hh
  · rw [if_neg c, if_neg c]
/-- the fields are there -/
def isC (N : Nat → Nat) (w : Nat) (A : AF) (V : VS) : Prop := ∀ k i f j, cfld k f ≠ 99 → cok N k i j = true → V k w i f j = A (cfld k f) i j
def isM (t : Nat) (A : AF) (V : VS) : Prop := ∀ k f j, mfld k f ≠ 99 → mok k j = true → V k t 0 f j = A (mfld k f) (mi k j) (mj k j)
theorem isC.eq {N : Nat → Nat} {w : Nat} {A : AF} {V : VS} (h : isC N w A V) : V = cput N w A (V 11 w 0 0) V := by
  funext k w' i f j
  unfold cput
  by_cases c : w' = w ∧ cfld k f ≠ 99 ∧ cok N k i j = true
  · rw [if_pos c, c.1]; exact h _ _ _ _ c.2.1 c.2.2
  · rw [if_neg c]
    by_cases c2 : k = 11 ∧ w' = w ∧ i = 0 ∧ f = 0
    · rw [if_pos c2, c2.1, c2.2.1, c2.2.2.1, c2.2.2.2]
    · rw [if_neg c2]
theorem isM.eq {t : Nat} {A : AF} {V : VS} (h : isM t A V) : V = mput t A (V 21 0 0 0) V := by
  funext k w' i f j
  unfold mput
  by_cases c : w' = t ∧ i = 0 ∧ mfld k f ≠ 99 ∧ mok k j = true
  · rw [if_pos c, c.1, c.2.1]; exact h _ _ _ c.2.2.1 c.2.2.2
  · rw [if_neg c]
    by_cases c2 : k = 21 ∧ w' = 0 ∧ i = 0 ∧ f = 0
    · rw [if_pos c2, c2.1, c2.2.1, c2.2.2.1, c2.2.2.2]
    · rw [if_neg c2]
theorem isC_put {N : Nat → Nat} {w : Nat} {A : AF} {D : Nat → Int32} {V : VS} : isC N w A (cput N w A D V) := fun _ _ _ _ h h2 => cput_r h rfl h2
theorem isM_put {t : Nat} {A : AF} {T : Nat → Int32} {V : VS} : isM t A (mput t A T V) := fun _ _ _ h ho => mput_r h rfl ho rfl rfl
theorem cfld_low {k f : Nat} (h : cfld k f ≠ 99) : k < 14 ∧ k ≠ 11 ∧ k ≠ 2 ∧ (k = 5 → f = 4) ∧ (k = 6 → 3 ≤ f) ∧ (k = 7 → 4 ≤ f) ∧ (k = 12 → f = 1) := by
  unfold cfld at h
  split at h <;> first | decide | exact absurd rfl h
theorem mfld_high {k f : Nat} (h : mfld k f ≠ 99) : (k = 16 ∨ (22 ≤ k ∧ k < 34)) := by
  unfold mfld at h
  split at h <;> first | decide | exact absurd rfl h
theorem isC_m {N : Nat → Nat} {w t : Nat} {A B : AF} {T : Nat → Int32} {V : VS} (h : isC N w A V) : isC N w A (mput t B T V) := fun k i f j h1 h2 => by
  have hk := cfld_low h1
  rw [mput_o (by have := @mfld_high k f; by_cases c : mfld k f = 99; exact c; have := this c; omega) (by omega)]
  exact h k i f j h1 h2
theorem isM_c {N : Nat → Nat} {w t : Nat} {A B : AF} {D : Nat → Int32} {V : VS} (h : isM t A V) : isM t A (cput N w B D V) := fun k f j h1 h2 => by
  have hk := mfld_high h1
  rw [cput_o (by have := @cfld_low k f; by_cases c : cfld k f = 99; exact c; have := this c; omega) (by omega)]
  exact h k f j h1 h2
theorem isC_c {N : Nat → Nat} {w w9 : Nat} {A B : AF} {D : Nat → Int32} {V : VS} (hw : w ≠ w9) (h : isC N w A V) : isC N w A (cput N w9 B D V) := fun k i f j h1 h2 => by
  rw [cput_ne hw]
  exact h k i f j h1 h2
theorem isM_m {t t9 : Nat} {A B : AF} {T : Nat → Int32} {V : VS} (hw : t ≠ t9) (h : isM t A V) : isM t A (mput t9 B T V) := fun k f j h1 h2 => by
  have hk := mfld_high h1
  rw [mput_ne hw (by omega)]
  exact h k f j h1 h2
theorem isC_v {N : Nat → Nat} {w : Nat} {A : AF} {V : VS} {k0 w0 i0 f0 j0 : Nat} {x : Int32} (hk : 14 ≤ k0) (h : isC N w A V) : isC N w A (vup V k0 w0 i0 f0 j0 x) := fun k i f j h1 h2 => by
  have hl := cfld_low h1
  rw [vup_ne (by omega)]
  exact h k i f j h1 h2
theorem isM_v {t : Nat} {A : AF} {V : VS} {k0 w0 i0 f0 j0 : Nat} {x : Int32} (hk : k0 = 15 ∨ k0 = 34) (h : isM t A V) : isM t A (vup V k0 w0 i0 f0 j0 x) := fun k f j h1 h2 => by
  have hl := mfld_high h1
  rw [vup_ne (by omega)]
  exact h k f j h1 h2
