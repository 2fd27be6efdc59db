/-! pure: what holds of the fields; a book back, a book lent, a reader out of a queue -/
def Wd (B : Nat) (A : AF) : Prop := ∃ d, d ≤ B ∧ A 0 0 0 = nI d
def Wm (N : Nat → Nat) (A : AF) : Prop := ∀ i, i < N 1 → ∃ m, m ≤ 20 ∧ A 2 i 0 = nI m
def Wr (N : Nat → Nat) (A : AF) : Prop := ∃ z, z ≤ 8 ∧ A 15 0 0 = nI z ∧ ∀ j, j < z → ∃ h, h < N 0 ∧ A 14 0 j = nI h
def Wq (N : Nat → Nat) (A : AF) : Prop := ∀ b, b < N 2 → ∃ q, q ≤ N 3 ∧ A 8 b 0 = nI q ∧ (∀ k, k < q → ∃ r, r < N 3 ∧ A 9 b k = nI r) ∧ ∀ k k', k < k' → k' < q → A 9 b k ≠ A 9 b k'
def Wh (N : Nat → Nat) (A : AF) : Prop := ∀ b, b < N 2 → (A 5 b 0 = -1 ∧ A 6 b 0 = -1) ∨ ((∃ r, r < N 3 ∧ A 5 b 0 = nI r) ∧ A 17 b 0 = A 6 b 0)
def Wc (N : Nat → Nat) (A : AF) : Prop := ∀ r, r < N 3 → ct (N 2) (fun b => A 5 b 0 == nI r) ≤ 3 ∧ A 13 r 0 = nI (ct (N 2) (fun b => A 5 b 0 == nI r))
def Wl (N : Nat → Nat) (A : AF) : Prop := A 16 0 0 = sm (N 2) (fun b => A 7 b 0)
def Wz (N : Nat → Nat) (A : AF) : Prop := (∀ i, N 1 ≤ i → A 2 i 0 = 0) ∧ (∀ i, N 0 ≤ i → A 3 i 0 = 0 ∧ A 4 i 0 = 0) ∧ (∀ b, N 2 ≤ b → A 7 b 0 = 0 ∧ A 8 b 0 = 0 ∧ ∀ j, j < 10 → A 9 b j = 0) ∧ (∀ r, N 3 ≤ r → A 10 r 0 = 0 ∧ A 11 r 0 = 0 ∧ A 12 r 0 = 0)
def WF (B : Nat) (N : Nat → Nat) (A : AF) : Prop := Wd B A ∧ Wm N A ∧ Wr N A ∧ Wq N A ∧ Wh N A ∧ Wc N A ∧ Wl N A ∧ Wz N A
def qN (A : AF) (b : Nat) : Nat := (A 8 b 0).toNatClampNeg
def fr (A : AF) (b : Nat) : Nat := (A 9 b 0).toNatClampNeg
def hN (A : AF) (b : Nat) : Nat := (A 5 b 0).toNatClampNeg
def backA (A : AF) (b r : Nat) (x : Int32) : AF := au (au (au (au A 5 b 0 (-1)) 6 b 0 (-1)) 13 r 0 (A 13 r 0 - 1)) 11 r 0 (A 11 r 0 + x)
def lendA (A : AF) (r b : Nat) : AF := au (au (au (au (au (au (au (au A 5 b 0 (nI r)) 6 b 0 (A 0 0 0)) 7 b 0 (A 7 b 0 + 1)) 13 r 0 (A 13 r 0 + 1)) 10 r 0 (A 10 r 0 ||| (1 <<< (nI b &&& 31)))) 12 r 0 (A 12 r 0 + 1)) 17 b 0 (A 0 0 0)) 16 0 0 (A 16 0 0 + 1)
def dropA (A : AF) (b p : Nat) : AF := fun f i j => if f = 8 ∧ i = b ∧ j = 0 then A 8 b 0 - 1 else if f = 9 ∧ i = b ∧ p ≤ j ∧ j + 1 < qN A b then A 9 b (j + 1) else A f i j
theorem au_self {A : AF} {f i j : Nat} {x : Int32} (h : x = A f i j) : au A f i j x = A := by
  funext f' i' j'
  unfold au
  split
  · next c => rw [c.1, c.2.1, c.2.2, h]
  · rfl
theorem au_ct {n : Nat} {A : AF} {b : Nat} {x y : Int32} (hb : n ≤ b) : ct n (fun b' => au A 5 b 0 x 5 b' 0 == y) = ct n (fun b' => A 5 b' 0 == y) := ct_congr (fun i hi => by rw [au_i (by omega)])
section
variable {B : Nat} {N : Nat → Nat} {A : AF} {b r p : Nat} {x : Int32}
theorem WF.lt (h : WF B N A) (hr : r < N 3) : ct (N 2) (fun b => A 5 b 0 == nI r) ≤ 3 ∧ A 13 r 0 = nI (ct (N 2) (fun b => A 5 b 0 == nI r)) := h.2.2.2.2.2.1 r hr
theorem Wc.back (hn : N 3 ≤ 10) (hb : b < N 2) (hr : r < N 3) (hh : A 5 b 0 = nI r) (h : Wc N A) : Wc N (backA A b r x) := by
  intro r' hr'
  have h0 := h r' hr'
  by_cases c : r' = r
  · subst c
    have e : ct (N 2) (fun b => A 5 b 0 == nI r') = ct (N 2) (fun b' => backA A b r' x 5 b' 0 == nI r') + 1 := by
      refine ct_add hb (fun i _ hi => ?_) ?_ ?_
      · show (A 5 i 0 == nI r') = (au A 5 b 0 (-1) 5 i 0 == nI r'); rw [au_i hi]
      · show (au A 5 b 0 (-1) 5 b 0 == nI r') = false
        rw [au_at]; exact beq_eq_false_iff_ne.mpr (Ne.symm (nI_m1 (by omega)))
      · show (A 5 b 0 == nI r') = true
        rw [hh]; exact beq_self_eq_true _
    refine ⟨by omega, ?_⟩
    show au (au (au A 5 b 0 (-1)) 6 b 0 (-1)) 13 r' 0 (A 13 r' 0 - 1) 13 r' 0 = _
    rw [au_at, h0.2, e, nI_pred]
  · have e : ct (N 2) (fun b' => backA A b r x 5 b' 0 == nI r') = ct (N 2) (fun b => A 5 b 0 == nI r') := by
      refine ct_congr (fun i hi => ?_)
      show (au A 5 b 0 (-1) 5 i 0 == nI r') = (A 5 i 0 == nI r')
      by_cases c2 : i = b
      · subst c2
        rw [au_at, hh, beq_eq_false_iff_ne.mpr (Ne.symm (nI_m1 (by omega))), beq_eq_false_iff_ne.mpr (fun z => c (nI_inj (by omega) (by omega) z).symm)]
      · rw [au_i c2]
    rw [e]
    refine ⟨h0.1, ?_⟩
    show au (au (au A 5 b 0 (-1)) 6 b 0 (-1)) 13 r 0 (A 13 r 0 - 1) 13 r' 0 = _
    rw [au_i c]; exact h0.2
theorem WF.back (hn : N 3 ≤ 10) (hb : b < N 2) (hr : r < N 3) (hh : A 5 b 0 = nI r) (h : WF B N A) : WF B N (backA A b r x) := by
  obtain ⟨h1, h2, h3, h4, h5, h6, h7, h8⟩ := h
  refine ⟨h1, h2, h3, h4, fun b' hb' => ?_, h6.back hn hb hr hh, h7, h8.1, h8.2.1, h8.2.2.1, fun r' hr' => ?_⟩
  · by_cases c : b' = b
    · subst c
      exact Or.inl ⟨(au_at : au A 5 b' 0 (-1) 5 b' 0 = -1), (au_at : au (au A 5 b' 0 (-1)) 6 b' 0 (-1) 6 b' 0 = -1)⟩
    · have e5 : backA A b r x 5 b' 0 = A 5 b' 0 := (au_i c : au A 5 b 0 (-1) 5 b' 0 = A 5 b' 0)
      have e6 : backA A b r x 6 b' 0 = A 6 b' 0 := (au_i c : au (au A 5 b 0 (-1)) 6 b 0 (-1) 6 b' 0 = A 6 b' 0)
      rw [e5, e6]
      exact h5 b' hb'
  · have e : backA A b r x 11 r' 0 = A 11 r' 0 := (au_i (by omega) : _ = (au (au (au A 5 b 0 (-1)) 6 b 0 (-1)) 13 r 0 (A 13 r 0 - 1)) 11 r' 0)
    rw [e]
    exact h8.2.2.2 r' hr'
theorem Wc.lend (hn : N 3 ≤ 10) (hb : b < N 2) (hr : r < N 3) (hh : A 5 b 0 = -1) (h3 : ct (N 2) (fun b => A 5 b 0 == nI r) < 3) (h : Wc N A) : Wc N (lendA A r b) := by
  intro r' hr'
  have h0 := h r' hr'
  by_cases c : r' = r
  · subst c
    have e : ct (N 2) (fun b' => lendA A r' b 5 b' 0 == nI r') = ct (N 2) (fun b => A 5 b 0 == nI r') + 1 := by
      refine ct_add hb (fun i _ hi => ?_) ?_ ?_
      · show (au A 5 b 0 (nI r') 5 i 0 == nI r') = (A 5 i 0 == nI r'); rw [au_i hi]
      · show (A 5 b 0 == nI r') = false
        rw [hh]; exact beq_eq_false_iff_ne.mpr (Ne.symm (nI_m1 (by omega)))
      · show (au A 5 b 0 (nI r') 5 b 0 == nI r') = true
        rw [au_at]; exact beq_self_eq_true _
    refine ⟨by omega, ?_⟩
    show au (au (au (au A 5 b 0 (nI r')) 6 b 0 (A 0 0 0)) 7 b 0 (A 7 b 0 + 1)) 13 r' 0 (A 13 r' 0 + 1) 13 r' 0 = _
    rw [au_at, h0.2, e, nI_1]
  · have e : ct (N 2) (fun b' => lendA A r b 5 b' 0 == nI r') = ct (N 2) (fun b => A 5 b 0 == nI r') := by
      refine ct_congr (fun i hi => ?_)
      show (au A 5 b 0 (nI r) 5 i 0 == nI r') = (A 5 i 0 == nI r')
      by_cases c2 : i = b
      · subst c2
        rw [au_at, hh, beq_eq_false_iff_ne.mpr (Ne.symm (nI_m1 (by omega))), beq_eq_false_iff_ne.mpr (fun z => c (nI_inj (by omega) (by omega) z).symm)]
      · rw [au_i c2]
    rw [e]
    refine ⟨h0.1, ?_⟩
    show au (au (au (au A 5 b 0 (nI r)) 6 b 0 (A 0 0 0)) 7 b 0 (A 7 b 0 + 1)) 13 r 0 (A 13 r 0 + 1) 13 r' 0 = _
    rw [au_i c]; exact h0.2
theorem WF.lend (hn : N 3 ≤ 10) (hb : b < N 2) (hr : r < N 3) (hh : A 5 b 0 = -1) (h3 : ct (N 2) (fun b => A 5 b 0 == nI r) < 3) (h : WF B N A) : WF B N (lendA A r b) := by
  obtain ⟨h1, h2, h3', h4, h5, h6, h7, h8⟩ := h
  refine ⟨h1, h2, h3', h4, fun b' hb' => ?_, h6.lend hn hb hr hh h3, ?_, h8.1, h8.2.1, fun b' hb' => ?_, fun r' hr' => ?_⟩
  · by_cases c : b' = b
    · subst c
      refine Or.inr ⟨⟨r, hr, (au_at : au A 5 b' 0 (nI r) 5 b' 0 = nI r)⟩, ?_⟩
      show au (au (au (au (au (au (au A 5 b' 0 (nI r)) 6 b' 0 (A 0 0 0)) 7 b' 0 (A 7 b' 0 + 1)) 13 r 0 (A 13 r 0 + 1)) 10 r 0 (A 10 r 0 ||| (1 <<< (nI b' &&& 31)))) 12 r 0 (A 12 r 0 + 1)) 17 b' 0 (A 0 0 0) 17 b' 0 = au (au A 5 b' 0 (nI r)) 6 b' 0 (A 0 0 0) 6 b' 0
      rw [au_at, au_at]
    · have e5 : lendA A r b 5 b' 0 = A 5 b' 0 := (au_i c : au A 5 b 0 (nI r) 5 b' 0 = A 5 b' 0)
      have e6 : lendA A r b 6 b' 0 = A 6 b' 0 := (au_i c : au (au A 5 b 0 (nI r)) 6 b 0 (A 0 0 0) 6 b' 0 = A 6 b' 0)
      have e17 : lendA A r b 17 b' 0 = A 17 b' 0 := (au_i c : _ = (au (au (au (au (au (au A 5 b 0 (nI r)) 6 b 0 (A 0 0 0)) 7 b 0 (A 7 b 0 + 1)) 13 r 0 (A 13 r 0 + 1)) 10 r 0 (A 10 r 0 ||| (1 <<< (nI b &&& 31)))) 12 r 0 (A 12 r 0 + 1)) 17 b' 0)
      rw [e5, e6, e17]
      exact h5 b' hb'
  · show lendA A r b 16 0 0 = sm (N 2) (fun b' => lendA A r b 7 b' 0)
    have e : lendA A r b 16 0 0 = A 16 0 0 + 1 := (au_at : _ = A 16 0 0 + 1)
    rw [e, show A 16 0 0 = sm (N 2) (fun b => A 7 b 0) from h7]
    refine (sm_add hb (fun i _ hi => ?_) ?_).symm
    · exact (au_i hi : au (au (au A 5 b 0 (nI r)) 6 b 0 (A 0 0 0)) 7 b 0 (A 7 b 0 + 1) 7 i 0 = A 7 i 0)
    · exact (au_at : au (au (au A 5 b 0 (nI r)) 6 b 0 (A 0 0 0)) 7 b 0 (A 7 b 0 + 1) 7 b 0 = A 7 b 0 + 1)
  · have e : lendA A r b 7 b' 0 = A 7 b' 0 := (au_i (by omega) : au (au (au A 5 b 0 (nI r)) 6 b 0 (A 0 0 0)) 7 b 0 (A 7 b 0 + 1) 7 b' 0 = A 7 b' 0)
    rw [e]
    exact h8.2.2.1 b' hb'
  · have e10 : lendA A r b 10 r' 0 = A 10 r' 0 := (au_i (by omega) : au (au (au (au (au A 5 b 0 (nI r)) 6 b 0 (A 0 0 0)) 7 b 0 (A 7 b 0 + 1)) 13 r 0 (A 13 r 0 + 1)) 10 r 0 (A 10 r 0 ||| (1 <<< (nI b &&& 31))) 10 r' 0 = A 10 r' 0)
    have e12 : lendA A r b 12 r' 0 = A 12 r' 0 := (au_i (by omega) : au (au (au (au (au (au A 5 b 0 (nI r)) 6 b 0 (A 0 0 0)) 7 b 0 (A 7 b 0 + 1)) 13 r 0 (A 13 r 0 + 1)) 10 r 0 (A 10 r 0 ||| (1 <<< (nI b &&& 31)))) 12 r 0 (A 12 r 0 + 1) 12 r' 0 = A 12 r' 0)
    rw [e10, e12]
    exact h8.2.2.2 r' hr'
theorem dropA_8 : dropA A b p 8 b 0 = A 8 b 0 - 1 := if_pos ⟨rfl, rfl, rfl⟩
theorem dropA_i {i j f : Nat} (h : i ≠ b) : dropA A b p f i j = A f i j := by
  unfold dropA
  rw [if_neg (fun z => h z.2.1), if_neg (fun z => h z.2.1)]
theorem dropA_f {i j f : Nat} (h : f ≠ 8) (h2 : f ≠ 9) : dropA A b p f i j = A f i j := by
  unfold dropA
  rw [if_neg (fun z => h z.1), if_neg (fun z => h2 z.1)]
theorem dropA_9 {k : Nat} (h : p ≤ k ∧ k + 1 < qN A b) : dropA A b p 9 b k = A 9 b (k + 1) := by
  unfold dropA
  rw [if_neg (fun z => absurd z.1 (by decide)), if_pos ⟨rfl, rfl, h.1, h.2⟩]
theorem dropA_9o {k : Nat} (h : ¬ (p ≤ k ∧ k + 1 < qN A b)) : dropA A b p 9 b k = A 9 b k := by
  unfold dropA
  rw [if_neg (fun z => absurd z.1 (by decide)), if_neg (fun z => h z.2.2)]
theorem WF.drop (hn : N 3 ≤ 10) (hb : b < N 2) (hp : p < qN A b) (h : WF B N A) : WF B N (dropA A b p) := by
  obtain ⟨h1, h2, h3, h4, h5, h6, h7, h8⟩ := h
  refine ⟨?_, ?_, ?_, fun b' hb' => ?_, ?_, ?_, ?_, ?_, ?_, fun b' hb' => ?_, ?_⟩
  · unfold Wd; rw [dropA_f (by decide) (by decide)]; exact h1
  · intro i hi; rw [dropA_f (by decide) (by decide)]; exact h2 i hi
  · unfold Wr; rw [dropA_f (by decide) (by decide)]
    obtain ⟨z, hz, e, h9⟩ := h3
    exact ⟨z, hz, e, fun j hj => by rw [dropA_f (by decide) (by decide)]; exact h9 j hj⟩
  · by_cases c : b' = b
    · subst c
      obtain ⟨q, hq, e, g1, g2⟩ := h4 b' hb
      have eq : qN A b' = q := by unfold qN; rw [e]; exact nI_clamp (by omega)
      rw [eq] at hp
      refine ⟨q - 1, by omega, ?_, fun k hk => ?_, fun k k' hk hk' => ?_⟩
      · rw [dropA_8, e]; exact pk_sub (a := q) (b := 1) (by omega)
      · by_cases c2 : p ≤ k
        · rw [dropA_9 ⟨c2, by omega⟩]; exact g1 (k + 1) (by omega)
        · rw [dropA_9o (fun z => c2 z.1)]; exact g1 k (by omega)
      · by_cases c2 : p ≤ k
        · rw [dropA_9 ⟨c2, by omega⟩, dropA_9 ⟨by omega, by omega⟩]; exact g2 _ _ (by omega) (by omega)
        · rw [dropA_9o (fun z => c2 z.1)]
          by_cases c3 : p ≤ k'
          · rw [dropA_9 ⟨c3, by omega⟩]; exact g2 _ _ (by omega) (by omega)
          · rw [dropA_9o (fun z => c3 z.1)]; exact g2 _ _ (by omega) (by omega)
    · obtain ⟨q, hq, e, g1, g2⟩ := h4 b' hb'
      refine ⟨q, hq, by rw [dropA_i c]; exact e, fun k hk => by rw [dropA_i c]; exact g1 k hk, fun k k' hk hk' => by rw [dropA_i c, dropA_i c]; exact g2 k k' hk hk'⟩
  · intro b' hb'; rw [dropA_f (by decide) (by decide), dropA_f (by decide) (by decide), dropA_f (by decide) (by decide)]; exact h5 b' hb'
  · intro r' hr'
    have e : ct (N 2) (fun b' => dropA A b p 5 b' 0 == nI r') = ct (N 2) (fun b => A 5 b 0 == nI r') := ct_congr (fun i _ => by rw [dropA_f (by decide) (by decide)])
    rw [e, dropA_f (by decide) (by decide)]; exact h6 r' hr'
  · show dropA A b p 16 0 0 = sm (N 2) (fun b' => dropA A b p 7 b' 0)
    rw [dropA_f (by decide) (by decide), sm_congr (g' := fun b' => dropA A b p 7 b' 0) (g := fun b' => A 7 b' 0) (fun i _ => dropA_f (by decide) (by decide))]; exact h7
  · intro i hi; rw [dropA_f (by decide) (by decide)]; exact h8.1 i hi
  · intro i hi; rw [dropA_f (by decide) (by decide), dropA_f (by decide) (by decide)]; exact h8.2.1 i hi
  · have c : b' ≠ b := by omega
    rw [dropA_i c, dropA_i c]
    exact ⟨(h8.2.2.1 b' hb').1, (h8.2.2.1 b' hb').2.1, fun j hj => by rw [dropA_i c]; exact (h8.2.2.1 b' hb').2.2 j hj⟩
  · intro r' hr'; rw [dropA_f (by decide) (by decide), dropA_f (by decide) (by decide), dropA_f (by decide) (by decide)]; exact h8.2.2.2 r' hr'
end
