/-! one world becomes another -/
section
variable {B : Nat} {N : Nat → Nat} {S : Nat → Nat → Nat} {ks : List KY} {V X : VS} {w t h b r i p q x n m : Nat} {A A1 A2 : AF} {D T : Nat → Int32}
theorem cput_c {k w' i f j : Nat} {x : Int32} (h : cfld k f = 99) (h2 : k ≠ 11) : vup (cput N w A D V) k w' i f j x = cput N w A D (vup V k w' i f j x) := by
  funext k' w9 i' f' j'
  unfold vup cput
  by_cases c : k' = k ∧ w9 = w' ∧ i' = i ∧ f' = f ∧ j' = j
  · rw [if_pos c, if_neg (fun z => z.2.1 (by rw [c.1, c.2.2.2.1]; exact h)), if_neg (fun z => h2 (c.1.symm.trans z.1))]
    exact (if_pos c).symm
  · dsimp only
    rw [if_neg c, if_neg c]
theorem cput_live (h : ∀ k f i j, cfld k f ≠ 99 → cok N k i j = true → A (cfld k f) i j = A2 (cfld k f) i j) : cput N w A D V = cput N w A2 D V := by
  funext k w' i f j
  unfold cput
  by_cases c : w' = w ∧ cfld k f ≠ 99 ∧ cok N k i j = true
  · rw [if_pos c, if_pos c, h k f i j c.2.1 c.2.2]
  · rw [if_neg c, if_neg c]
def vC (V : VS) (w : Nat) : AF := fun a i j => V (cinv a).1 w i (cinv a).2 j
theorem isC_v0 : isC N w (vC V w) V := fun k i f j h _ => by
  show V k w i f j = V (cinv (cfld k f)).1 w i (cinv (cfld k f)).2 j
  rw [cfld_inv h]
/-- A2 is A at the places of P -/
def Ag (P : Nat → Nat → Nat → Prop) (A A2 : AF) : Prop := ∀ f i j, P f i j → A2 f i j = A f i j
theorem Ag_au {P P' : Nat → Nat → Nat → Prop} {f0 i0 j0 : Nat} {x : Int32} (h : Ag P A A2) (hx : x = A f0 i0 j0) (hP : ∀ f i j, P' f i j → P f i j ∨ (f = f0 ∧ i = i0 ∧ j = j0)) : Ag P' A (au A2 f0 i0 j0 x) := by
  intro f i j hp
  by_cases c : f = f0 ∧ i = i0 ∧ j = j0
  · rw [c.1, c.2.1, c.2.2, au_at, hx]
  · rw [au_ne c]
    rcases hP f i j hp with z | z
    · exact h f i j z
    · exact absurd z c
theorem Ag_mono {P P' : Nat → Nat → Nat → Prop} (h : Ag P A A2) (hP : ∀ f i j, P' f i j → P f i j) : Ag P' A A2 := fun f i j hp => h f i j (hP f i j hp)
def rowA (A2 A : AF) (f0 i0 n : Nat) : AF := fun f i j => if f = f0 ∧ i = i0 ∧ j < n then A f i j else A2 f i j
theorem rowA_0 : rowA A2 A p i 0 = A2 := by
  funext f i' j
  exact if_neg (fun z => Nat.not_lt_zero _ z.2.2)
theorem rowA_s {x : Int32} (hx : x = A p i n) : au (rowA A2 A p i n) p i n x = rowA A2 A p i (n + 1) := by
  funext f i' j
  unfold au rowA
  by_cases c : f = p ∧ i' = i ∧ j = n
  · rw [if_pos c, if_pos ⟨c.1, c.2.1, by omega⟩, c.1, c.2.1, c.2.2, hx]
  · rw [if_neg c]
    by_cases c2 : f = p ∧ i' = i ∧ j < n
    · rw [if_pos c2, if_pos ⟨c2.1, c2.2.1, by omega⟩]
    · rw [if_neg c2, if_neg (fun z => c2 ⟨z.1, z.2.1, by by_cases e : j = n; exact absurd ⟨z.1, z.2.1, e⟩ c; omega⟩)]
theorem Ag_row {P P' : Nat → Nat → Nat → Prop} (h : Ag P A A2) (hP : ∀ f i' j, P' f i' j → P f i' j ∨ (f = p ∧ i' = i ∧ j < n)) : Ag P' A (rowA A2 A p i n) := by
  intro f i' j hp
  unfold rowA
  by_cases c : f = p ∧ i' = i ∧ j < n
  · rw [if_pos c]
  · rw [if_neg c]
    rcases hP f i' j hp with z | z
    · exact h f i' j z
    · exact absurd z c
theorem t_row {post : VS → Prop} {k0 w0 i0 k1 w1 i1 : Nat} (st : Nat → VS) (h0 : (k0, w0, i0) ∈ ks) (h1 : (k1, w1, i1) ∈ ks) (e0 : aLen k0 = n) (e1 : aLen k1 = n) (hn0 : 0 < n) (hn : n < 1000) (hst : ∀ j, j < n → vup (st j) k1 w1 i1 0 j (st j k0 w0 i0 0 j) = st (j + 1)) (hp : post (st n)) : wp_X8_copyRow ks k0 w0 i0 k1 w1 i1 (st 0) post := by
  refine ⟨fun m x V' => ∃ i, i + m = n ∧ x = nI i ∧ V' = st i, ⟨n, 0, by omega, rfl, rfl⟩, ?_⟩
  rintro m _ _ ⟨i, hi, rfl, rfl⟩
  refine ⟨h0, by omega, ?_⟩
  rw [e0, e1]
  refine pk_le n i (fun c => ?_) (fun c => ⟨h1, hn0, pk_le n i (fun c2 => absurd c (by omega)) (fun _ => ⟨pk_in i n c, pk_in i n c, ?_⟩)⟩)
  · have : i = n := by omega
    subst this
    exact hp
  · rw [nI_clamp (by omega), hst i c]
    rintro _ rfl _ rfl
    exact ⟨m - 1, by omega, i + 1, by omega, nI_1 i, rfl⟩
def P1 (k f i j : Nat) : Prop := (f = 3 ∨ f = 4) ∧ i < k ∧ j = 0
def P2 (N : Nat → Nat) (k f i j : Nat) : Prop := P1 (N 0) f i j ∨ (f = 2 ∧ i < k ∧ j = 0)
def P3 (N : Nat → Nat) (k f i j : Nat) : Prop := P2 N (N 1) f i j ∨ ((f = 5 ∨ f = 6 ∨ f = 7 ∨ f = 8) ∧ i < k ∧ j = 0) ∨ (f = 9 ∧ i < k ∧ j < 10)
def P4 (N : Nat → Nat) (k f i j : Nat) : Prop := P3 N (N 2) f i j ∨ ((f = 10 ∨ f = 11 ∨ f = 12 ∨ f = 13) ∧ i < k ∧ j = 0)
theorem live_P {k f j : Nat} (h : cfld k f ≠ 99) (h2 : cok N k i j = true) : P4 N (N 3) (cfld k f) i j ∨ (cfld k f = 14 ∧ i = 0 ∧ j < 8) ∨ (cfld k f = 15 ∧ i = 0 ∧ j = 0) ∨ (cfld k f = 0 ∧ i = 0 ∧ j = 0) ∨ (cfld k f = 1 ∧ i = 0 ∧ j = 0) := by
  unfold cfld at h ⊢
  unfold P4 P3 P2 P1
  split at h <;> first | exact absurd rfl h | (have h3 := of_decide_eq_true h2; simp; omega)
/-- the class's trial world becomes the one that is -/
def Vr (V : VS) (n : Nat) : VS := fun k w i f j => if k = 14 ∧ w = 1 ∧ i = 0 ∧ f = 0 ∧ j < n then V 14 0 0 0 j else V k w i f j
theorem Vr_s {x : Int32} (hx : x = V 14 0 0 0 n) : vup (Vr V n) 14 1 0 0 n x = Vr V (n + 1) := by
  funext k w i f j
  unfold vup Vr
  by_cases c : k = 14 ∧ w = 1 ∧ i = 0 ∧ f = 0 ∧ j = n
  · rw [if_pos c, if_pos ⟨c.1, c.2.1, c.2.2.1, c.2.2.2.1, by omega⟩, hx, c.2.2.2.2]
  · rw [if_neg c]
    by_cases c2 : k = 14 ∧ w = 1 ∧ i = 0 ∧ f = 0 ∧ j < n
    · rw [if_pos c2, if_pos ⟨c2.1, c2.2.1, c2.2.2.1, c2.2.2.2.1, by omega⟩]
    · rw [if_neg c2, if_neg (fun z => c2 ⟨z.1, z.2.1, z.2.2.1, z.2.2.2.1, by by_cases e : j = n; exact absurd ⟨z.1, z.2.1, z.2.2.1, z.2.2.2.1, e⟩ c; omega⟩)]
theorem Vr_0 : Vr V 0 = V := by
  funext k w i f j
  exact if_neg (fun z => Nat.not_lt_zero _ z.2.2.2.2)
theorem Vr_o {k w' i f j : Nat} (h : ¬ (k = 14 ∧ w' = 1)) : Vr V n k w' i f j = V k w' i f j := if_neg (fun z => h ⟨z.1, z.2.1⟩)
/-- the trial world's rain and minutes are as they are -/
def rnV (V : VS) : VS := vup (Vr V 7) 12 1 0 2 0 (V 12 0 0 2 0)
theorem SF_rn : SF V (rnV V) := fun k w i f j e => by
  unfold rnV
  have h1 : ¬ (k = 12 ∧ w = 1 ∧ f = 2) := fun z => by rw [z.1, z.2.1, z.2.2] at e; exact absurd e (by decide)
  have h2 : ¬ (k = 14 ∧ w = 1) := fun z => by
    rw [z.1, z.2] at e
    have : ∀ f, stat 14 1 f = false := fun _ => rfl
    rw [this f] at e
    exact Bool.noConfusion e
  unfold vup
  rw [if_neg (fun z => h1 ⟨z.1, z.2.1, z.2.2.2.1⟩), Vr_o h2]
theorem Rn_rn (hB : Bs N S ks V) : Rn S 1 (rnV V) := by
  refine ⟨fun d hd => ?_, ?_⟩
  · unfold rnV
    rw [vup_ne (by omega)]
    exact (if_pos ⟨rfl, rfl, rfl, rfl, hd⟩ : Vr V 7 14 1 0 0 d = V 14 0 0 0 d).trans (hB.rn.1 d hd)
  · unfold rnV
    rw [vup_eq]; exact hB.rn.2
theorem isC_rn (h : isC N 0 A V) : isC N 0 A (rnV V) := fun k i f j h1 h2 => by
  unfold rnV
  rw [vup_ne (by omega), Vr_o (by omega)]
  exact h k i f j h1 h2
theorem isM_rn (h : isM t A V) : isM t A (rnV V) := fun k f j h1 h2 => by
  have hk := mfld_high h1
  unfold rnV
  rw [vup_ne (by omega), Vr_o (by omega)]
  exact h k f j h1 h2
theorem t_copyFrom {post : VS → Prop} (hB : Bs N S ks V) (hC : isC N 0 A V) (hp : ∀ D', post (cput N 1 A D' (rnV V))) : wp_X7_copyFrom ks 1 0 V post := by
  have hn := hB.n
  have h01 : (0 : Nat) ≤ 1 := Nat.zero_le _
  have h11 : (1 : Nat) ≤ 1 := Nat.le_refl _
  have hX : ∀ {A2 : AF} {D : Nat → Int32}, Bs N S ks (cput N 1 A2 D V) := hB.c
  have rd : ∀ {A2 : AF} {D : Nat → Int32} {k i f j a : Nat}, a ≠ 99 → cfld k f = a → cok N k i j = true → cput N 1 A2 D V k 0 i f j = A a i j := fun ha e h2 => by
    rw [cput_ne (by decide)]
    subst e
    exact hC _ _ _ _ ha h2
  have L220 : ∀ A2 D, Ag (P4 N (N 3)) A A2 → wb_X7_copyFrom_220 ks 1 0 post (cput N 1 A2 D V) := by
    intro A2 D hA
    refine ⟨hB.k1 h11, hB.k1 h01, hB.k12 h11, hB.k12 h01, hB.k12 h11, ?_⟩
    have e0 : cput N 1 A2 D V = (fun j => cput N 1 (rowA A2 A 14 0 j) D V) 0 := by
      show _ = cput N 1 (rowA A2 A 14 0 0) D V
      rw [rowA_0]
    rw [e0]
    refine t_row (n := 8) (fun j => cput N 1 (rowA A2 A 14 0 j) D V) (hB.k13 h01) (hB.k13 h11) rfl rfl (by decide) (by decide) (fun j hj => ?_) ?_
    · show vup (cput N 1 (rowA A2 A 14 0 j) D V) 13 1 0 0 j (cput N 1 (rowA A2 A 14 0 j) D V 13 0 0 0 j) = _
      rw [cw14 hj, rowA_s (rd (k := 13) (i := 0) (f := 0) (j := j) (a := 14) (by decide) rfl (decide_eq_true (show (0 : Nat) = 0 ∧ j < 8 from ⟨rfl, hj⟩)))]
    · have hA1 : Ag (fun f i j => P4 N (N 3) f i j ∨ (f = 14 ∧ i = 0 ∧ j < 8)) A (rowA A2 A 14 0 8) := Ag_row hA (fun f i j h => h)
      show ∀ V4 : VS, _
      generalize rowA A2 A 14 0 8 = A3 at hA1
      rintro _ rfl
      rw [cw15, rd (a := 15) (by decide) rfl rfl]
      rintro _ rfl
      rw [cput_c rfl (by decide), cput_ne (by decide)]
      have hA2 := Ag_au (f0 := 15) (i0 := 0) (j0 := 0) hA1 rfl (fun f i j h => h)
      generalize au A3 15 0 0 (A 15 0 0) = A4 at hA2
      have e1 : cput N 1 A4 D (vup V 12 1 0 2 0 (V 12 0 0 2 0)) = (fun j => cput N 1 A4 D (vup (Vr V j) 12 1 0 2 0 (V 12 0 0 2 0))) 0 := by
        show _ = cput N 1 A4 D (vup (Vr V 0) 12 1 0 2 0 (V 12 0 0 2 0))
        rw [Vr_0]
      rw [e1]
      refine t_row (n := 7) (fun j => cput N 1 A4 D (vup (Vr V j) 12 1 0 2 0 (V 12 0 0 2 0))) (hB.k14 h01) (hB.k14 h11) rfl rfl (by decide) (by decide) (fun j hj => ?_) ?_
      · show vup (cput N 1 A4 D (vup (Vr V j) 12 1 0 2 0 (V 12 0 0 2 0))) 14 1 0 0 j (cput N 1 A4 D (vup (Vr V j) 12 1 0 2 0 (V 12 0 0 2 0)) 14 0 0 0 j) = cput N 1 A4 D (vup (Vr V (j + 1)) 12 1 0 2 0 (V 12 0 0 2 0))
        rw [cput_c rfl (by decide), cput_ne (by decide), vup_ne (by decide), Vr_o (by decide), ← Vr_s rfl]
        congr 1
        funext k w i f j'
        unfold vup
        by_cases c : k = 14 ∧ w = 1 ∧ i = 0 ∧ f = 0 ∧ j' = j
        · rw [if_pos c, if_neg (by omega), if_pos c]
        · rw [if_neg c]
          by_cases c2 : k = 12 ∧ w = 1 ∧ i = 0 ∧ f = 2 ∧ j' = 0
          · rw [if_pos c2, if_pos c2]
          · rw [if_neg c2, if_neg c2, if_neg c]
      · show ∀ V6 : VS, V6 = vup (cput N 1 A4 D (rnV V)) 1 1 0 7 0 (cput N 1 A4 D (rnV V) 1 0 0 7 0) → _
        have hCr := isC_rn hC
        have rd2 : ∀ {A2 : AF} {D : Nat → Int32} {k i f j a : Nat}, a ≠ 99 → cfld k f = a → cok N k i j = true → cput N 1 A2 D (rnV V) k 0 i f j = A a i j := fun ha e h2 => by
          rw [cput_ne (by decide)]
          subst e
          exact hCr _ _ _ _ ha h2
        rw [cw0, rd2 (a := 0) (by decide) rfl rfl]
        rintro _ rfl
        rw [cw1, rd2 (a := 1) (by decide) rfl rfl]
        rintro _ rfl
        have hA3 := Ag_au (f0 := 0) (i0 := 0) (j0 := 0) hA2 rfl (fun f i j h => h)
        have hA5 := Ag_au (f0 := 1) (i0 := 0) (j0 := 0) hA3 rfl (fun f i j h => h)
        generalize au (au A4 0 0 0 (A 0 0 0)) 1 0 0 (A 1 0 0) = A5 at hA5
        rw [cput_live (A2 := A) (fun k f i j h h2 => hA5 _ _ _ ?_)]
        · exact hp D
        · have := live_P h h2
          dsimp only
          rcases this with z | z | z | z | z
          · exact Or.inl (Or.inl (Or.inl (Or.inl z)))
          · exact Or.inl (Or.inl (Or.inl (Or.inr z)))
          · exact Or.inl (Or.inl (Or.inr z))
          · exact Or.inl (Or.inr z)
          · exact Or.inr z
  have L167 : ∀ A2 D, Ag (P4 N 0) A A2 → wl_X7_copyFrom_167 ks 1 0 post 0 (cput N 1 A2 D V) := by
    intro A2 D hA
    refine ⟨fun n x V' => ∃ i A3, i + n = N 3 ∧ x = nI i ∧ V' = cput N 1 A3 D V ∧ Ag (P4 N i) A A3, ⟨N 3, 0, A2, by omega, rfl, rfl, hA⟩, ?_⟩
    rintro n _ _ ⟨i, A3, hi, rfl, rfl, hA3⟩
    refine ⟨hB.k1 h11, hB.k2 h11 (by decide), ?_⟩
    have s1 := (hX (A2 := A3) (D := D)).sz (w := 1) (K := 3) h11 (by decide)
    have s0 := (hX (A2 := A3) (D := D)).sz (w := 0) (K := 3) h01 (by decide)
    rw [s1]
    refine pk_le (N 3) i (fun c => ?_) (fun c => ⟨hB.k1 h01, hB.k2 h01 (by decide), ?_⟩)
    · have : i = N 3 := by omega
      subst this
      exact L220 A3 D hA3
    rw [s0]
    refine pk_le (N 3) i (fun c2 => absurd c (by omega)) (fun _ => ?_)
    rw [← s1]
    refine lget hX h11 (by decide) c ⟨hB.k7 h11 c, ?_⟩
    rw [s1, ← s0]
    refine lget hX h01 (by decide) c ⟨hB.k7 h01 c, hB.k7 h01 c, hB.k7 h11 c, ?_⟩
    have ok : cok N 7 i 0 = true := decide_eq_true ⟨c, rfl⟩
    rw [cw13 c, rd (a := 13) (by decide) rfl ok]
    rintro _ rfl
    rw [cw10 c, rd (a := 10) (by decide) rfl ok]
    rintro _ rfl
    rw [cw11 c, rd (a := 11) (by decide) rfl ok]
    rintro _ rfl
    rw [cw12 c, rd (a := 12) (by decide) rfl ok]
    rintro _ rfl _ rfl
    refine ⟨n - 1, by omega, i + 1, _, by omega, nI_1 i, rfl, ?_⟩
    have g1 := Ag_au (f0 := 13) (i0 := i) (j0 := 0) hA3 rfl (fun f i j h => h)
    have g2 := Ag_au (f0 := 10) (i0 := i) (j0 := 0) g1 rfl (fun f i j h => h)
    have g3 := Ag_au (f0 := 11) (i0 := i) (j0 := 0) g2 rfl (fun f i j h => h)
    have g4 := Ag_au (f0 := 12) (i0 := i) (j0 := 0) g3 rfl (fun f i j h => h)
    refine Ag_mono g4 (fun f i' j h => ?_)
    rcases h with h | h
    · exact Or.inl (Or.inl (Or.inl (Or.inl (Or.inl h))))
    · by_cases e : i' = i
      · subst e
        rcases h.1 with z | z | z | z
        · exact Or.inl (Or.inl (Or.inr ⟨z, rfl, h.2.2⟩))
        · exact Or.inl (Or.inr ⟨z, rfl, h.2.2⟩)
        · exact Or.inr ⟨z, rfl, h.2.2⟩
        · exact Or.inl (Or.inl (Or.inl (Or.inr ⟨z, rfl, h.2.2⟩)))
      · exact Or.inl (Or.inl (Or.inl (Or.inl (Or.inr ⟨h.1, by omega, h.2.2⟩))))
  have L112 : ∀ A2 D, Ag (P3 N 0) A A2 → wl_X7_copyFrom_112 ks 1 0 post 0 (cput N 1 A2 D V) := by
    intro A2 D hA
    refine ⟨fun n x V' => ∃ i A3, i + n = N 2 ∧ x = nI i ∧ V' = cput N 1 A3 D V ∧ Ag (P3 N i) A A3, ⟨N 2, 0, A2, by omega, rfl, rfl, hA⟩, ?_⟩
    rintro n _ _ ⟨i, A3, hi, rfl, rfl, hA3⟩
    have s1 := (hX (A2 := A3) (D := D)).sz (w := 1) (K := 2) h11 (by decide)
    have s0 := (hX (A2 := A3) (D := D)).sz (w := 0) (K := 2) h01 (by decide)
    have nx : i = N 2 → wl_X7_copyFrom_167 ks 1 0 post 0 (cput N 1 A3 D V) := fun e => by
      subst e
      exact L167 A3 D (Ag_mono hA3 (fun f i j h => by
        rcases h with h | h
        · exact h
        · exact absurd h.2.1 (Nat.not_lt_zero _)))
    refine ⟨hB.k1 h11, hB.k2 h11 (by decide), ?_⟩
    rw [s1]
    refine pk_le (N 2) i (fun c => nx (by omega)) (fun c => ⟨hB.k1 h01, hB.k2 h01 (by decide), ?_⟩)
    rw [s0]
    refine pk_le (N 2) i (fun c2 => absurd c (by omega)) (fun _ => ?_)
    rw [← s1]
    refine lget hX h11 (by decide) c ⟨hB.k6 h11 c, ?_⟩
    rw [s1, ← s0]
    refine lget hX h01 (by decide) c ⟨hB.k6 h01 c, hB.k6 h11 c, hB.k6 h01 c, hB.k8 h11 c, hB.k8 h01 c, hB.k8 h11 c, ?_⟩
    have ok : cok N 6 i 0 = true := decide_eq_true ⟨c, rfl⟩
    have ok8 : cok N 8 i 0 = true := decide_eq_true ⟨c, rfl⟩
    have e0 : cput N 1 A3 D V = (fun j => cput N 1 (rowA A3 A 9 i j) D V) 0 := by
      show _ = cput N 1 (rowA A3 A 9 i 0) D V
      rw [rowA_0]
    rw [e0]
    refine t_row (n := 10) (fun j => cput N 1 (rowA A3 A 9 i j) D V) (hB.k9 h01 c) (hB.k9 h11 c) rfl rfl (by decide) (by decide) (fun j hj => ?_) ?_
    · show vup (cput N 1 (rowA A3 A 9 i j) D V) 9 1 i 0 j (cput N 1 (rowA A3 A 9 i j) D V 9 0 i 0 j) = _
      rw [cw9 c hj, rowA_s (rd (k := 9) (i := i) (f := 0) (j := j) (a := 9) (by decide) rfl (decide_eq_true (show i < N 2 ∧ j < 10 from ⟨c, hj⟩)))]
    · have g0 : Ag (fun f i' j => P3 N i f i' j ∨ (f = 9 ∧ i' = i ∧ j < 10)) A (rowA A3 A 9 i 10) := Ag_row hA3 (fun f i j h => h)
      show ∀ V4 : VS, _
      generalize rowA A3 A 9 i 10 = A4 at g0
      rintro _ rfl
      rw [cw8 c, rd (a := 8) (by decide) rfl ok8]
      rintro _ rfl
      rw [cw5 c, rd (a := 5) (by decide) rfl ok]
      rintro _ rfl
      rw [cw6 c, rd (a := 6) (by decide) rfl ok]
      rintro _ rfl
      rw [cw7 c, rd (a := 7) (by decide) rfl ok]
      rintro _ rfl
      refine ⟨n - 1, by omega, i + 1, _, by omega, nI_1 i, rfl, ?_⟩
      have g1 := Ag_au (f0 := 8) (i0 := i) (j0 := 0) g0 rfl (fun f i j h => h)
      have g2 := Ag_au (f0 := 5) (i0 := i) (j0 := 0) g1 rfl (fun f i j h => h)
      have g3 := Ag_au (f0 := 6) (i0 := i) (j0 := 0) g2 rfl (fun f i j h => h)
      have g4 := Ag_au (f0 := 7) (i0 := i) (j0 := 0) g3 rfl (fun f i j h => h)
      refine Ag_mono g4 (fun f i' j h => ?_)
      rcases h with h | h | h
      · exact Or.inl (Or.inl (Or.inl (Or.inl (Or.inl (Or.inl h)))))
      · by_cases e : i' = i
        · subst e
          rcases h.1 with z | z | z | z
          · exact Or.inl (Or.inl (Or.inr ⟨z, rfl, h.2.2⟩))
          · exact Or.inl (Or.inr ⟨z, rfl, h.2.2⟩)
          · exact Or.inr ⟨z, rfl, h.2.2⟩
          · exact Or.inl (Or.inl (Or.inl (Or.inr ⟨z, rfl, h.2.2⟩)))
        · exact Or.inl (Or.inl (Or.inl (Or.inl (Or.inl (Or.inr (Or.inl ⟨h.1, by omega, h.2.2⟩))))))
      · by_cases e : i' = i
        · exact Or.inl (Or.inl (Or.inl (Or.inl (Or.inr ⟨h.1, e, h.2.2⟩))))
        · exact Or.inl (Or.inl (Or.inl (Or.inl (Or.inl (Or.inr (Or.inr ⟨h.1, by omega, h.2.2⟩))))))
  have L57 : ∀ A2 D, Ag (P2 N 0) A A2 → wl_X7_copyFrom_57 ks 1 0 post 0 (cput N 1 A2 D V) := by
    intro A2 D hA
    refine ⟨fun n x V' => ∃ i A3, i + n = N 1 ∧ x = nI i ∧ V' = cput N 1 A3 D V ∧ Ag (P2 N i) A A3, ⟨N 1, 0, A2, by omega, rfl, rfl, hA⟩, ?_⟩
    rintro n _ _ ⟨i, A3, hi, rfl, rfl, hA3⟩
    have s1 := (hX (A2 := A3) (D := D)).sz (w := 1) (K := 1) h11 (by decide)
    have s0 := (hX (A2 := A3) (D := D)).sz (w := 0) (K := 1) h01 (by decide)
    have nx : i = N 1 → wl_X7_copyFrom_112 ks 1 0 post 0 (cput N 1 A3 D V) := fun e => by
      subst e
      exact L112 A3 D (Ag_mono hA3 (fun f i j h => by
        rcases h with h | h | h
        · exact h
        · exact absurd h.2.1 (Nat.not_lt_zero _)
        · exact absurd h.2.1 (Nat.not_lt_zero _)))
    refine ⟨hB.k1 h11, hB.k2 h11 (by decide), ?_⟩
    rw [s1]
    refine pk_le (N 1) i (fun c => nx (by omega)) (fun c => ⟨hB.k1 h01, hB.k2 h01 (by decide), ?_⟩)
    rw [s0]
    refine pk_le (N 1) i (fun c2 => absurd c (by omega)) (fun _ => ?_)
    rw [← s1]
    refine lget hX h11 (by decide) c ⟨hB.k5 h11 c, ?_⟩
    rw [s1, ← s0]
    refine lget hX h01 (by decide) c ⟨hB.k5 h01 c, hB.k5 h01 c, hB.k5 h11 c, ?_⟩
    have ok : cok N 5 i 0 = true := decide_eq_true ⟨c, rfl⟩
    rw [cw2 c, rd (a := 2) (by decide) rfl ok]
    rintro _ rfl _ rfl
    refine ⟨n - 1, by omega, i + 1, _, by omega, nI_1 i, rfl, ?_⟩
    have g1 := Ag_au (f0 := 2) (i0 := i) (j0 := 0) hA3 rfl (fun f i j h => h)
    refine Ag_mono g1 (fun f i' j h => ?_)
    rcases h with h | h
    · exact Or.inl (Or.inl h)
    · by_cases e : i' = i
      · exact Or.inr ⟨h.1, e, h.2.2⟩
      · exact Or.inl (Or.inr ⟨h.1, by omega, h.2.2⟩)
  have hC1 : V = cput N 1 (vC V 1) (V 11 1 0 0) V := isC_v0.eq
  have L2 : ∀ A2 D, Ag (P1 0) A A2 → wl_X7_copyFrom_2 ks 1 0 post 0 (cput N 1 A2 D V) := by
    intro A2 D hA
    refine ⟨fun n x V' => ∃ i A3, i + n = N 0 ∧ x = nI i ∧ V' = cput N 1 A3 D V ∧ Ag (P1 i) A A3, ⟨N 0, 0, A2, by omega, rfl, rfl, hA⟩, ?_⟩
    rintro n _ _ ⟨i, A3, hi, rfl, rfl, hA3⟩
    have s1 := (hX (A2 := A3) (D := D)).sz (w := 1) (K := 0) h11 (by decide)
    have s0 := (hX (A2 := A3) (D := D)).sz (w := 0) (K := 0) h01 (by decide)
    have nx : i = N 0 → wl_X7_copyFrom_57 ks 1 0 post 0 (cput N 1 A3 D V) := fun e => by
      subst e
      exact L57 A3 D (Ag_mono hA3 (fun f i j h => by
        rcases h with h | h
        · exact h
        · exact absurd h.2.1 (Nat.not_lt_zero _)))
    refine ⟨hB.k1 h11, hB.k2 h11 (by decide), ?_⟩
    rw [s1]
    refine pk_le (N 0) i (fun c => nx (by omega)) (fun c => ⟨hB.k1 h01, hB.k2 h01 (by decide), ?_⟩)
    rw [s0]
    refine pk_le (N 0) i (fun c2 => absurd c (by omega)) (fun _ => ?_)
    rw [← s1]
    refine lget hX h11 (by decide) c ⟨hB.k4 h11 c, ?_⟩
    rw [s1, ← s0]
    refine lget hX h01 (by decide) c ⟨hB.k4 h01 c, hB.k4 h01 c, hB.k4 h11 c, ?_⟩
    have ok : cok N 4 i 0 = true := decide_eq_true ⟨c, rfl⟩
    rw [cw3 c, rd (a := 3) (by decide) rfl ok]
    rintro _ rfl
    rw [cw4 c, rd (a := 4) (by decide) rfl ok]
    rintro _ rfl _ rfl
    refine ⟨n - 1, by omega, i + 1, _, by omega, nI_1 i, rfl, ?_⟩
    have g1 := Ag_au (f0 := 3) (i0 := i) (j0 := 0) hA3 rfl (fun f i j h => h)
    have g2 := Ag_au (f0 := 4) (i0 := i) (j0 := 0) g1 rfl (fun f i j h => h)
    refine Ag_mono g2 (fun f i' j h => ?_)
    by_cases e : i' = i
    · rcases h.1 with z | z
      · exact Or.inl (Or.inr ⟨z, e, h.2.2⟩)
      · exact Or.inr ⟨z, e, h.2.2⟩
    · exact Or.inl (Or.inl ⟨h.1, by have := h.2.1; omega, h.2.2⟩)
  have := L2 (vC V 1) (V 11 1 0 0) (fun f i j h => absurd h.2.1 (Nat.not_lt_zero _))
  rw [← hC1] at this
  exact this
end
