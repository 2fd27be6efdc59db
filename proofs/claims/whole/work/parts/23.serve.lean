/-! pure: the weather, the books back, the reserved ones, the others -/
theorem au_c {X Y : AF} {f i j f0 i0 j0 : Nat} {x y : Int32} (h : X f i j = Y f i j) (e : x = y) : au X f0 i0 j0 x f i j = au Y f0 i0 j0 y f i j := by
  unfold au
  rw [h, e]
def wm (x m c : Int32) : Int32 := if x ≤ 0 then (if (0 : Int32) < m - 2 then m - 2 else 0) else (if m + (x * c) / 4 < 20 then m + (x * c) / 4 else 20)
def weaA (S : Nat → Nat → Nat) (x : Int32) (n : Nat) (A : AF) : AF := fun f i j => if f = 2 ∧ i < n ∧ j = 0 then wm x (A 2 i 0) (nI (S 23 i)) else A f i j
theorem weaA_0 {S : Nat → Nat → Nat} {x : Int32} {A : AF} : weaA S x 0 A = A := by
  funext f i j
  exact if_neg (fun z => Nat.not_lt_zero _ z.2.1)
theorem weaA_r {S : Nat → Nat → Nat} {x : Int32} {n : Nat} {A : AF} : weaA S x n A 2 n 0 = A 2 n 0 := if_neg (fun z => Nat.lt_irrefl _ z.2.1)
theorem weaA_s {S : Nat → Nat → Nat} {x : Int32} {n : Nat} {A : AF} : au (weaA S x n A) 2 n 0 (wm x (A 2 n 0) (nI (S 23 n))) = weaA S x (n + 1) A := by
  funext f i j
  unfold au weaA
  by_cases c : f = 2 ∧ i = n ∧ j = 0
  · rw [if_pos c, if_pos ⟨c.1, by omega, c.2.2⟩, c.2.1]
  · rw [if_neg c]
    by_cases c2 : f = 2 ∧ i < n ∧ j = 0
    · rw [if_pos c2, if_pos ⟨c2.1, by omega, c2.2.2⟩]
    · rw [if_neg c2, if_neg (fun z => c2 ⟨z.1, by by_cases e : i = n; exact absurd ⟨z.1, e, z.2.2⟩ c; omega, z.2.2⟩)]
def due (N : Nat → Nat) (S : Nat → Nat → Nat) (A : AF) (h b : Nat) : Bool := decide (b < N 2) && decide (A 5 b 0 ≠ -1) && (S 25 (hN A b) == h) && !decide (A 0 0 0 - A 6 b 0 < nI (S 27 (hN A b)))
def pen (A : AF) (b : Nat) : Int32 := if A 0 0 0 - A 6 b 0 ≤ 14 then 0 else A 0 0 0 - A 6 b 0 - 14
/-- the books of Q are back -/
def bkA (N : Nat → Nat) (A : AF) (Q : Nat → Bool) : AF := fun f i j =>
  if f = 5 ∧ j = 0 ∧ Q i = true then -1
  else if f = 6 ∧ j = 0 ∧ Q i = true then -1
  else if f = 13 ∧ j = 0 ∧ i < N 3 then A 13 i 0 - nI (ct (N 2) (fun b => Q b && (hN A b == i)))
  else if f = 11 ∧ j = 0 ∧ i < N 3 then A 11 i 0 + sm (N 2) (fun b => if (Q b && (hN A b == i)) = true then pen A b else 0)
  else A f i j
section
variable {N : Nat → Nat} {A : AF} {Q Q' : Nat → Bool} {i j b r f h0 : Nat} {x : Int32} {S : Nat → Nat → Nat}
theorem bk5 : bkA N A Q 5 i j = if j = 0 ∧ Q i = true then -1 else A 5 i j := by unfold bkA; simp
theorem bk6 : bkA N A Q 6 i j = if j = 0 ∧ Q i = true then -1 else A 6 i j := by unfold bkA; simp
theorem bk13 : bkA N A Q 13 i j = if j = 0 ∧ i < N 3 then A 13 i 0 - nI (ct (N 2) (fun b => Q b && (hN A b == i))) else A 13 i j := by unfold bkA; simp
theorem bk11 : bkA N A Q 11 i j = if j = 0 ∧ i < N 3 then A 11 i 0 + sm (N 2) (fun b => if (Q b && (hN A b == i)) = true then pen A b else 0) else A 11 i j := by unfold bkA; simp
theorem bkf (h : f ≠ 5 ∧ f ≠ 6 ∧ f ≠ 11 ∧ f ≠ 13) : bkA N A Q f i j = A f i j := by
  unfold bkA
  rw [if_neg (fun z => h.1 z.1), if_neg (fun z => h.2.1 z.1), if_neg (fun z => h.2.2.2 z.1), if_neg (fun z => h.2.2.1 z.1)]
theorem bk_0 : bkA N A (fun _ => false) = A := by
  funext f i j
  unfold bkA
  rw [if_neg (fun z => Bool.noConfusion z.2.2), if_neg (fun z => Bool.noConfusion z.2.2)]
  by_cases c : f = 13 ∧ j = 0 ∧ i < N 3
  · rw [if_pos c, show ct (N 2) (fun b => (fun _ => false) b && (hN A b == i)) = 0 from ct_zero (fun _ _ => rfl), c.1, c.2.1]; exact Int32.sub_zero _
  · rw [if_neg c]
    by_cases c2 : f = 11 ∧ j = 0 ∧ i < N 3
    · rw [if_pos c2, show sm (N 2) (fun b => if ((fun _ => false) b && (hN A b == i)) = true then pen A b else 0) = 0 from sm_zero (fun _ _ => rfl), c2.1, c2.2.1]; exact Int32.add_zero _
    · rw [if_neg c2]
theorem bk_congr (h : ∀ x, Q' x = Q x) : bkA N A Q' = bkA N A Q := by rw [show Q' = Q from funext h]
theorem bk_s (hb : b < N 2) (hr3 : r < N 3) (hr : hN A b = r) (hQ : Q b = false) (hQ' : ∀ x, Q' x = (Q x || x == b)) : bkA N A Q' = backA (bkA N A Q) b r (pen A b) := by
  have hb' : Q' b = true := by rw [hQ', beq_self_eq_true, Bool.or_true]
  have ho : ∀ x, x ≠ b → Q' x = Q x := fun x hx => by rw [hQ', beq_eq_false_iff_ne.mpr hx, Bool.or_false]
  refine af_ext [5, 6, 11, 13] ?_ ?_
  · intro f hf i j
    simp only [List.mem_cons, List.not_mem_nil, or_false] at hf
    rcases hf with rfl | rfl | rfl | rfl
    · rw [bk5]
      show _ = au (bkA N A Q) 5 b 0 (-1) 5 i j
      by_cases c : i = b ∧ j = 0
      · rw [c.1, c.2, au_at, if_pos ⟨rfl, hb'⟩]
      · rw [au_ne (fun z => c z.2), bk5]
        by_cases c2 : i = b
        · rw [if_neg (fun z => c ⟨c2, z.1⟩), if_neg (fun z => c ⟨c2, z.1⟩)]
        · rw [ho i c2]
    · rw [bk6]
      show _ = au (au (bkA N A Q) 5 b 0 (-1)) 6 b 0 (-1) 6 i j
      by_cases c : i = b ∧ j = 0
      · rw [c.1, c.2, au_at, if_pos ⟨rfl, hb'⟩]
      · rw [au_ne (fun z => c z.2), au_f (by decide), bk6]
        by_cases c2 : i = b
        · rw [if_neg (fun z => c ⟨c2, z.1⟩), if_neg (fun z => c ⟨c2, z.1⟩)]
        · rw [ho i c2]
    · rw [bk11]
      unfold backA
      by_cases c : i = r ∧ j = 0
      · rw [c.1, c.2, au_at, bk11]
        rw [if_pos ⟨rfl, hr3⟩, if_pos ⟨rfl, hr3⟩, Int32.add_assoc]
        congr 1
        refine sm_add hb (fun x _ hx => by rw [ho x hx]) ?_
        rw [hb', hQ, hr, beq_self_eq_true]
        exact (Int32.zero_add _).symm
      · rw [au_ne (fun z => c z.2), au_f (by decide), au_f (by decide), au_f (by decide), bk11]
        by_cases c2 : j = 0 ∧ i < N 3
        · rw [if_pos c2, if_pos c2]
          congr 1
          refine sm_congr (fun x _ => ?_)
          by_cases c3 : x = b
          · rw [c3, hr, beq_eq_false_iff_ne.mpr (fun z => c ⟨z.symm, c2.1⟩), Bool.and_false, Bool.and_false]
          · rw [ho x c3]
        · rw [if_neg c2, if_neg c2]
    · rw [bk13]
      unfold backA
      rw [au_f (by decide)]
      by_cases c : i = r ∧ j = 0
      · rw [c.1, c.2, au_at, bk13]
        rw [if_pos ⟨rfl, hr3⟩, if_pos ⟨rfl, hr3⟩]
        have e : ct (N 2) (fun b => Q' b && (hN A b == r)) = ct (N 2) (fun b => Q b && (hN A b == r)) + 1 := ct_add hb (fun x _ hx => by rw [ho x hx]) (by rw [hQ]; rfl) (by rw [hb', hr, beq_self_eq_true]; rfl)
        rw [e, ← nI_1]
        grind
      · rw [au_ne (fun z => c z.2), au_f (by decide), au_f (by decide), bk13]
        by_cases c2 : j = 0 ∧ i < N 3
        · rw [if_pos c2, if_pos c2]
          congr 2
          refine ct_congr (fun x _ => ?_)
          by_cases c3 : x = b
          · rw [c3, hr, beq_eq_false_iff_ne.mpr (fun z => c ⟨z.symm, c2.1⟩), Bool.and_false, Bool.and_false]
          · rw [ho x c3]
        · rw [if_neg c2, if_neg c2]
  · intro f hf i j
    simp only [List.mem_cons, List.not_mem_nil, or_false, not_or] at hf
    rw [bkf ⟨hf.1, hf.2.1, hf.2.2.1, hf.2.2.2⟩]
    unfold backA
    rw [au_f hf.2.2.1, au_f hf.2.2.2, au_f hf.2.1, au_f hf.1, bkf ⟨hf.1, hf.2.1, hf.2.2.1, hf.2.2.2⟩]
end
/-- the reserved books of Q are lent -/
def rvA (N : Nat → Nat) (A : AF) (Q : Nat → Bool) : AF := fun f i j =>
  if f = 5 ∧ j = 0 ∧ Q i = true then A 9 i 0
  else if f = 6 ∧ j = 0 ∧ Q i = true then A 0 0 0
  else if f = 17 ∧ j = 0 ∧ Q i = true then A 0 0 0
  else if f = 7 ∧ j = 0 ∧ Q i = true then A 7 i 0 + 1
  else if f = 8 ∧ j = 0 ∧ Q i = true then A 8 i 0 - 1
  else if f = 9 ∧ Q i = true ∧ j + 1 < qN A i then A 9 i (j + 1)
  else if f = 10 ∧ j = 0 ∧ i < N 3 then A 10 i 0 ||| orr (N 2) (fun b => if (Q b && (fr A b == i)) = true then 1 <<< (nI b &&& 31) else 0)
  else if f = 12 ∧ j = 0 ∧ i < N 3 then A 12 i 0 + nI (ct (N 2) (fun b => Q b && (fr A b == i)))
  else if f = 13 ∧ j = 0 ∧ i < N 3 then A 13 i 0 + nI (ct (N 2) (fun b => Q b && (fr A b == i)))
  else if f = 16 ∧ i = 0 ∧ j = 0 then A 16 0 0 + nI (ct (N 2) Q)
  else A f i j
section
variable {N : Nat → Nat} {A : AF} {Q Q' : Nat → Bool} {i j b r f h0 : Nat} {x : Int32} {S : Nat → Nat → Nat}
theorem rv5 : rvA N A Q 5 i j = if j = 0 ∧ Q i = true then A 9 i 0 else A 5 i j := by unfold rvA; simp
theorem rv6 : rvA N A Q 6 i j = if j = 0 ∧ Q i = true then A 0 0 0 else A 6 i j := by unfold rvA; simp
theorem rv17 : rvA N A Q 17 i j = if j = 0 ∧ Q i = true then A 0 0 0 else A 17 i j := by unfold rvA; simp
theorem rv7 : rvA N A Q 7 i j = if j = 0 ∧ Q i = true then A 7 i 0 + 1 else A 7 i j := by unfold rvA; simp
theorem rv8 : rvA N A Q 8 i j = if j = 0 ∧ Q i = true then A 8 i 0 - 1 else A 8 i j := by unfold rvA; simp
theorem rv9 : rvA N A Q 9 i j = if Q i = true ∧ j + 1 < qN A i then A 9 i (j + 1) else A 9 i j := by unfold rvA; simp
theorem rv10 : rvA N A Q 10 i j = if j = 0 ∧ i < N 3 then A 10 i 0 ||| orr (N 2) (fun b => if (Q b && (fr A b == i)) = true then 1 <<< (nI b &&& 31) else 0) else A 10 i j := by unfold rvA; simp
theorem rv12 : rvA N A Q 12 i j = if j = 0 ∧ i < N 3 then A 12 i 0 + nI (ct (N 2) (fun b => Q b && (fr A b == i))) else A 12 i j := by unfold rvA; simp
theorem rv13 : rvA N A Q 13 i j = if j = 0 ∧ i < N 3 then A 13 i 0 + nI (ct (N 2) (fun b => Q b && (fr A b == i))) else A 13 i j := by unfold rvA; simp
theorem rv16 : rvA N A Q 16 i j = if i = 0 ∧ j = 0 then A 16 0 0 + nI (ct (N 2) Q) else A 16 i j := by unfold rvA; simp
theorem rvf (h : f ∉ [5, 6, 7, 8, 9, 10, 12, 13, 16, 17]) : rvA N A Q f i j = A f i j := by
  simp only [List.mem_cons, List.not_mem_nil, or_false, not_or] at h
  unfold rvA
  simp [h]
theorem rv_0 : rvA N A (fun _ => false) = A := by
  refine af_ext [5, 6, 7, 8, 9, 10, 12, 13, 16, 17] ?_ (fun f h i j => rvf h)
  intro f hf i j
  simp only [List.mem_cons, List.not_mem_nil, or_false] at hf
  have e0 : ct (N 2) (fun b => (fun _ => false) b && (fr A b == i)) = 0 := ct_zero (fun _ _ => rfl)
  have e1 : ct (N 2) (fun _ => false) = 0 := ct_zero (fun _ _ => rfl)
  have e2 : orr (N 2) (fun b => if ((fun _ => false) b && (fr A b == i)) = true then (1 : Int32) <<< (nI b &&& 31) else 0) = 0 := orr_zero (fun _ _ => rfl)
  rcases hf with rfl | rfl | rfl | rfl | rfl | rfl | rfl | rfl | rfl | rfl
  · rw [rv5, if_neg (fun z => Bool.noConfusion z.2)]
  · rw [rv6, if_neg (fun z => Bool.noConfusion z.2)]
  · rw [rv7, if_neg (fun z => Bool.noConfusion z.2)]
  · rw [rv8, if_neg (fun z => Bool.noConfusion z.2)]
  · rw [rv9, if_neg (fun z => Bool.noConfusion z.1)]
  · rw [rv10, e2]
    split
    · next c => rw [c.1]; exact Int32.or_zero
    · rfl
  · rw [rv12, e0]
    split
    · next c => rw [c.1]; exact Int32.add_zero _
    · rfl
  · rw [rv13, e0]
    split
    · next c => rw [c.1]; exact Int32.add_zero _
    · rfl
  · rw [rv16, e1]
    split
    · next c => rw [c.1, c.2]; exact Int32.add_zero _
    · rfl
  · rw [rv17, if_neg (fun z => Bool.noConfusion z.2)]
theorem rv_congr (h : ∀ x, Q' x = Q x) : rvA N A Q' = rvA N A Q := by rw [show Q' = Q from funext h]
theorem rv_q (hQ : Q b = false) : qN (rvA N A Q) b = qN A b := by
  unfold qN
  rw [rv8, if_neg (fun z => by rw [hQ] at z; exact Bool.noConfusion z.2)]
theorem rv_s (hb : b < N 2) (hr3 : r < N 3) (hr : A 9 b 0 = nI r) (hr2 : fr A b = r) (hQ : Q b = false) (hQ' : ∀ x, Q' x = (Q x || x == b)) : rvA N A Q' = lendA (dropA (rvA N A Q) b 0) r b := by
  have hb' : Q' b = true := by rw [hQ', beq_self_eq_true, Bool.or_true]
  have ho : ∀ x, x ≠ b → Q' x = Q x := fun x hx => by rw [hQ', beq_eq_false_iff_ne.mpr hx, Bool.or_false]
  have hQb : ∀ {P : Prop}, ¬ (P ∧ Q b = true) := fun z => by rw [hQ] at z; exact Bool.noConfusion z.2
  have e0 : dropA (rvA N A Q) b 0 0 0 0 = A 0 0 0 := (dropA_f (by decide) (by decide)).trans (rvf (by decide))
  refine af_ext [5, 6, 7, 8, 9, 10, 12, 13, 16, 17] ?_ ?_
  · intro f hf i j
    simp only [List.mem_cons, List.not_mem_nil, or_false] at hf
    unfold lendA
    rcases hf with rfl | rfl | rfl | rfl | rfl | rfl | rfl | rfl | rfl | rfl
    · rw [au_f (by decide), au_f (by decide), au_f (by decide), au_f (by decide), au_f (by decide), au_f (by decide), au_f (by decide), rv5]
      by_cases c : i = b ∧ j = 0
      · rw [c.1, c.2, au_at, if_pos ⟨rfl, hb'⟩, hr]
      · rw [au_ne (fun z => c z.2), dropA_f (by decide) (by decide), rv5]
        by_cases c2 : i = b
        · rw [if_neg (fun z => c ⟨c2, z.1⟩), if_neg (fun z => c ⟨c2, z.1⟩)]
        · rw [ho i c2]
    · rw [au_f (by decide), au_f (by decide), au_f (by decide), au_f (by decide), au_f (by decide), au_f (by decide), rv6]
      by_cases c : i = b ∧ j = 0
      · rw [c.1, c.2, au_at, if_pos ⟨rfl, hb'⟩, e0]
      · rw [au_ne (fun z => c z.2), au_f (by decide), dropA_f (by decide) (by decide), rv6]
        by_cases c2 : i = b
        · rw [if_neg (fun z => c ⟨c2, z.1⟩), if_neg (fun z => c ⟨c2, z.1⟩)]
        · rw [ho i c2]
    · rw [au_f (by decide), au_f (by decide), au_f (by decide), au_f (by decide), au_f (by decide), rv7]
      by_cases c : i = b ∧ j = 0
      · rw [c.1, c.2, au_at, if_pos ⟨rfl, hb'⟩, dropA_f (by decide) (by decide), rv7, if_neg hQb]
      · rw [au_ne (fun z => c z.2), au_f (by decide), au_f (by decide), dropA_f (by decide) (by decide), rv7]
        by_cases c2 : i = b
        · rw [if_neg (fun z => c ⟨c2, z.1⟩), if_neg (fun z => c ⟨c2, z.1⟩)]
        · rw [ho i c2]
    · rw [au_f (by decide), au_f (by decide), au_f (by decide), au_f (by decide), au_f (by decide), au_f (by decide), au_f (by decide), au_f (by decide), rv8]
      by_cases c : i = b
      · by_cases c2 : j = 0
        · rw [c, c2, if_pos ⟨rfl, hb'⟩, dropA_8, rv8, if_neg hQb]
        · rw [if_neg (fun z => c2 z.1)]
          unfold dropA
          rw [if_neg (fun z => c2 z.2.2), if_neg (fun z => absurd z.1 (by decide)), rv8, if_neg (fun z => c2 z.1)]
      · rw [dropA_i c, rv8, ho i c]
    · rw [au_f (by decide), au_f (by decide), au_f (by decide), au_f (by decide), au_f (by decide), au_f (by decide), au_f (by decide), au_f (by decide), rv9]
      by_cases c : i = b
      · rw [c]
        have hn : ∀ {P : Prop}, ¬ (Q b = true ∧ P) := fun z => by rw [hQ] at z; exact Bool.noConfusion z.1
        by_cases c2 : j + 1 < qN A b
        · rw [if_pos ⟨hb', c2⟩, dropA_9 ⟨Nat.zero_le _, by rw [rv_q hQ]; exact c2⟩, rv9, if_neg hn]
        · rw [if_neg (fun z => c2 z.2), dropA_9o (fun z => c2 (by rw [rv_q hQ] at z; exact z.2)), rv9, if_neg hn]
      · rw [dropA_i c, rv9, ho i c]
    · rw [au_f (by decide), au_f (by decide), au_f (by decide), rv10]
      by_cases c : i = r ∧ j = 0
      · rw [c.1, c.2, au_at, dropA_f (by decide) (by decide), rv10, if_pos ⟨rfl, hr3⟩, if_pos ⟨rfl, hr3⟩, Int32.or_assoc]
        congr 1
        refine orr_add hb (fun x _ hx => by rw [ho x hx]) ?_
        rw [hb', hQ, hr2, beq_self_eq_true]
        exact Int32.zero_or.symm
      · rw [au_ne (fun z => c z.2), au_f (by decide), au_f (by decide), au_f (by decide), au_f (by decide), dropA_f (by decide) (by decide), rv10]
        by_cases c2 : j = 0 ∧ i < N 3
        · rw [if_pos c2, if_pos c2]
          congr 1
          refine orr_congr (fun x _ => ?_)
          by_cases c3 : x = b
          · rw [c3, hr2, beq_eq_false_iff_ne.mpr (fun z => c ⟨z.symm, c2.1⟩), Bool.and_false, Bool.and_false]
          · rw [ho x c3]
        · rw [if_neg c2, if_neg c2]
    · rw [au_f (by decide), au_f (by decide), rv12]
      by_cases c : i = r ∧ j = 0
      · have e : ct (N 2) (fun b => Q' b && (fr A b == r)) = ct (N 2) (fun b => Q b && (fr A b == r)) + 1 := ct_add hb (fun x _ hx => by rw [ho x hx]) (by rw [hQ]; rfl) (by rw [hb', hr2, beq_self_eq_true]; rfl)
        rw [c.1, c.2, au_at, dropA_f (by decide) (by decide), rv12, if_pos ⟨rfl, hr3⟩, if_pos ⟨rfl, hr3⟩, e, ← nI_1, Int32.add_assoc]
      · rw [au_ne (fun z => c z.2), au_f (by decide), au_f (by decide), au_f (by decide), au_f (by decide), au_f (by decide), dropA_f (by decide) (by decide), rv12]
        by_cases c2 : j = 0 ∧ i < N 3
        · rw [if_pos c2, if_pos c2]
          congr 2
          refine ct_congr (fun x _ => ?_)
          by_cases c3 : x = b
          · rw [c3, hr2, beq_eq_false_iff_ne.mpr (fun z => c ⟨z.symm, c2.1⟩), Bool.and_false, Bool.and_false]
          · rw [ho x c3]
        · rw [if_neg c2, if_neg c2]
    · rw [au_f (by decide), au_f (by decide), au_f (by decide), au_f (by decide), rv13]
      by_cases c : i = r ∧ j = 0
      · have e : ct (N 2) (fun b => Q' b && (fr A b == r)) = ct (N 2) (fun b => Q b && (fr A b == r)) + 1 := ct_add hb (fun x _ hx => by rw [ho x hx]) (by rw [hQ]; rfl) (by rw [hb', hr2, beq_self_eq_true]; rfl)
        rw [c.1, c.2, au_at, dropA_f (by decide) (by decide), rv13, if_pos ⟨rfl, hr3⟩, if_pos ⟨rfl, hr3⟩, e, ← nI_1, Int32.add_assoc]
      · rw [au_ne (fun z => c z.2), au_f (by decide), au_f (by decide), au_f (by decide), dropA_f (by decide) (by decide), rv13]
        by_cases c2 : j = 0 ∧ i < N 3
        · rw [if_pos c2, if_pos c2]
          congr 2
          refine ct_congr (fun x _ => ?_)
          by_cases c3 : x = b
          · rw [c3, hr2, beq_eq_false_iff_ne.mpr (fun z => c ⟨z.symm, c2.1⟩), Bool.and_false, Bool.and_false]
          · rw [ho x c3]
        · rw [if_neg c2, if_neg c2]
    · rw [rv16]
      by_cases c : i = 0 ∧ j = 0
      · have e : ct (N 2) Q' = ct (N 2) Q + 1 := ct_add hb (fun x _ hx => ho x hx) hQ hb'
        rw [c.1, c.2, au_at, if_pos ⟨rfl, rfl⟩]
        rw [dropA_f (by decide) (by decide), rv16, if_pos ⟨rfl, rfl⟩, e, ← nI_1, Int32.add_assoc]
      · rw [au_ne (fun z => c z.2), if_neg c, au_f (by decide), au_f (by decide), au_f (by decide), au_f (by decide), au_f (by decide), au_f (by decide), au_f (by decide), dropA_f (by decide) (by decide), rv16, if_neg c]
    · rw [au_f (by decide), rv17]
      by_cases c : i = b ∧ j = 0
      · rw [c.1, c.2, au_at, if_pos ⟨rfl, hb'⟩, e0]
      · rw [au_ne (fun z => c z.2), au_f (by decide), au_f (by decide), au_f (by decide), au_f (by decide), au_f (by decide), au_f (by decide), dropA_f (by decide) (by decide), rv17]
        by_cases c2 : i = b
        · rw [if_neg (fun z => c ⟨c2, z.1⟩), if_neg (fun z => c ⟨c2, z.1⟩)]
        · rw [ho i c2]
  · intro f hf i j
    rw [rvf hf]
    simp only [List.mem_cons, List.not_mem_nil, or_false, not_or] at hf
    obtain ⟨h5, h6, h7, h8, h9, h10, h12, h13, h16, h17⟩ := hf
    unfold lendA
    rw [au_f h16, au_f h17, au_f h12, au_f h10, au_f h13, au_f h7, au_f h6, au_f h5, dropA_f h8 h9, rvf (by simp [*])]
end
