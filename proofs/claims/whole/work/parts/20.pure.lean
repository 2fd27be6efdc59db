/-! pure: lenses and shapes -/
def itn {α : Type} (f : Nat → α → α) : Nat → α → α
  | 0, a => a
  | n + 1, a => f n (itn f n a)
abbrev CW : Type := Nat → Nat → Nat → Nat → Int32
def aup (A : CW) (k i f j : Nat) (x : Int32) : CW := fun k' i' f' j' => if k' = k ∧ i' = i ∧ f' = f ∧ j' = j then x else A k' i' f' j'
def arow (A : CW) (k i : Nat) (g : Nat → Int32) : CW := fun k' i' f' j' => if k' = k ∧ i' = i ∧ f' = 0 then g j' else A k' i' f' j'
/-- what changes in a world of the class, in a state of the model -/
def dynC (k f : Nat) : Bool := match k with
  | 1 => f == 7 || f == 8
  | 4 => f == 0 || f == 1
  | 5 => f == 4
  | 6 => f == 3 || f == 4 || f == 5
  | 7 => f == 4 || f == 5 || f == 6 || f == 7
  | 8 => f == 1
  | 9 => f == 0
  | 11 => f == 0
  | 12 => f == 1 || f == 2
  | 13 => f == 0
  | 14 => f == 0
  | _ => false
def dynM (k f : Nat) : Bool := match k with
  | 16 => f == 0 || f == 1 || f == 2 || f == 5
  | 22 => f == 0
  | 23 => f == 0
  | 24 => f == 0
  | 25 => f == 0
  | 26 => f == 0
  | 27 => f == 0
  | 28 => f == 0
  | 29 => f == 0
  | 30 => f == 0
  | 31 => f == 0
  | 32 => f == 0
  | 33 => f == 0
  | _ => false
def putD (D : Nat → Nat → Bool) (V : VS) (w : Nat) (A : CW) : VS := fun k w' i f j => if w' = w ∧ D k f = true then A k i f j else V k w' i f j
abbrev putC : VS → Nat → CW → VS := putD dynC
abbrev putM : VS → Nat → CW → VS := putD dynM
/-- the model's times, shared by its states -/
def putT (V : VS) (T : Nat → Int32) : VS := vrow V 21 0 0 T
def aC (V : VS) (w : Nat) : CW := fun k i f j => V k w i f j
theorem putD_at {D : Nat → Nat → Bool} {V : VS} {w : Nat} {A : CW} {k i f j : Nat} (h : D k f = true) : putD D V w A k w i f j = A k i f j := if_pos ⟨rfl, h⟩
theorem putD_row {D : Nat → Nat → Bool} {V : VS} {w : Nat} {A : CW} {k i f : Nat} (h : D k f = true) : putD D V w A k w i f = A k i f := by funext j; exact putD_at h
theorem putD_off {D : Nat → Nat → Bool} {V : VS} {w : Nat} {A : CW} {k w' i f j : Nat} (h : D k f = false) : putD D V w A k w' i f j = V k w' i f j := if_neg (fun z => by rw [h] at z; exact absurd z.2 (by decide))
theorem putD_ne {D : Nat → Nat → Bool} {V : VS} {w : Nat} {A : CW} {k w' i f j : Nat} (h : w' ≠ w) : putD D V w A k w' i f j = V k w' i f j := if_neg (fun z => h z.1)
theorem putD_self {D : Nat → Nat → Bool} {V : VS} {w : Nat} : putD D V w (aC V w) = V := by
  funext k w' i f j
  unfold putD aC
  by_cases h : w' = w ∧ D k f = true
  · rw [if_pos h, h.1]
  · rw [if_neg h]
theorem vupD {D : Nat → Nat → Bool} {V : VS} {w : Nat} {A : CW} {k i f j : Nat} {x : Int32} (h : D k f = true) : vup (putD D V w A) k w i f j x = putD D V w (aup A k i f j x) := by
  funext k' w' i' f' j'
  unfold vup putD aup
  by_cases h1 : w' = w
  · subst h1
    by_cases h2 : D k' f' = true
    · by_cases h3 : k' = k ∧ i' = i ∧ f' = f ∧ j' = j
      · rw [if_pos ⟨h3.1, rfl, h3.2.1, h3.2.2.1, h3.2.2.2⟩, if_pos ⟨rfl, h2⟩, if_pos h3]
      · rw [if_neg (fun z => h3 ⟨z.1, z.2.2.1, z.2.2.2.1, z.2.2.2.2⟩), if_pos ⟨rfl, h2⟩, if_pos ⟨rfl, h2⟩, if_neg h3]
    · rw [if_neg (fun z => h2 (by rw [z.1, z.2.2.2.1]; exact h)), if_neg (fun z => h2 z.2), if_neg (fun z => h2 z.2)]
  · rw [if_neg (fun z => h1 z.2.1), if_neg (fun z => h1 z.1), if_neg (fun z => h1 z.1)]
def cnt (nh nl nb nr K : Nat) : Nat := match K with
  | 0 => nh
  | 1 => nl
  | 2 => nb
  | _ => nr
def live (nh nl nb nr : Nat) (x : KY) : Prop := match x.1 with
  | 0 => x.2.1 = 0 ∧ x.2.2 = 0
  | 1 => x.2.1 ≤ 1 ∧ x.2.2 = 0
  | 2 => x.2.1 ≤ 1 ∧ x.2.2 ≤ 3
  | 3 => x.2.1 ≤ 1 ∧ x.2.2 ≤ 3 ∧ cnt nh nl nb nr x.2.2 ≠ 0
  | 4 => x.2.1 ≤ 1 ∧ x.2.2 < nh
  | 5 => x.2.1 ≤ 1 ∧ x.2.2 < nl
  | 6 => x.2.1 ≤ 1 ∧ x.2.2 < nb
  | 7 => x.2.1 ≤ 1 ∧ x.2.2 < nr
  | 8 => x.2.1 ≤ 1 ∧ x.2.2 < nb
  | 9 => x.2.1 ≤ 1 ∧ x.2.2 < nb
  | k + 10 => if k < 5 ∨ k = 6 ∨ (12 ≤ k ∧ k < 24) then x.2.1 ≤ 1 ∧ x.2.2 = 0 else if k = 5 ∨ (7 ≤ k ∧ k < 12) ∨ k = 24 then x.2.1 = 0 ∧ x.2.2 = 0 else False
/-- the shape: how many there are of each, the live keys, the sizes in both worlds and in the model -/
def SH (nh nl nb nr : Nat) (ks : List KY) (V : VS) : Prop :=
  (nh ≤ 8 ∧ nl ≤ 16 ∧ nb ≤ 24 ∧ nr ≤ 10) ∧ (∀ x, x ∈ ks ↔ live nh nl nb nr x) ∧ (∀ w K, w ≤ 1 → K ≤ 3 → V 2 w K 2 0 = nI (cnt nh nl nb nr K)) ∧ V 15 0 0 1 0 = nI nh ∧ V 15 0 0 2 0 = nI nl ∧ V 15 0 0 6 0 = nI nb ∧ V 15 0 0 8 0 = nI nr
theorem ite_and {P Q R : Prop} [Decidable P] (h : P → Q) (h2 : ¬ P → R) : (P → Q) ∧ (¬ P → R) := ⟨h, h2⟩
theorem nI_le {a b : Nat} (ha : a < 2 ^ 31) (hb : b < 2 ^ 31) : nI a ≤ nI b ↔ a ≤ b := by
  constructor
  · intro h
    exact Nat.not_lt.mp (fun z => absurd ((nI_ltI hb ha).mpr z) (Int32.not_lt.mpr h))
  · intro h
    exact Int32.not_lt.mp (fun z => absurd ((nI_ltI hb ha).mp z) (Nat.not_lt.mpr h))
theorem nI_s {n : Nat} : nI n + 1 = nI (n + 1) := nI_add n 1
theorem rC_1_7 {V : VS} {w : Nat} {A : CW} {i j : Nat} : putC V w A 1 w i 7 j = A 1 i 7 j := putD_at rfl
theorem vC_1_7 {V : VS} {w : Nat} {A : CW} {i j : Nat} {x : Int32} : vup (putC V w A) 1 w i 7 j x = putC V w (aup A 1 i 7 j x) := vupD rfl
theorem rC_1_8 {V : VS} {w : Nat} {A : CW} {i j : Nat} : putC V w A 1 w i 8 j = A 1 i 8 j := putD_at rfl
theorem vC_1_8 {V : VS} {w : Nat} {A : CW} {i j : Nat} {x : Int32} : vup (putC V w A) 1 w i 8 j x = putC V w (aup A 1 i 8 j x) := vupD rfl
theorem rC_4_0 {V : VS} {w : Nat} {A : CW} {i j : Nat} : putC V w A 4 w i 0 j = A 4 i 0 j := putD_at rfl
theorem vC_4_0 {V : VS} {w : Nat} {A : CW} {i j : Nat} {x : Int32} : vup (putC V w A) 4 w i 0 j x = putC V w (aup A 4 i 0 j x) := vupD rfl
theorem rC_4_1 {V : VS} {w : Nat} {A : CW} {i j : Nat} : putC V w A 4 w i 1 j = A 4 i 1 j := putD_at rfl
theorem vC_4_1 {V : VS} {w : Nat} {A : CW} {i j : Nat} {x : Int32} : vup (putC V w A) 4 w i 1 j x = putC V w (aup A 4 i 1 j x) := vupD rfl
theorem rC_5_4 {V : VS} {w : Nat} {A : CW} {i j : Nat} : putC V w A 5 w i 4 j = A 5 i 4 j := putD_at rfl
theorem vC_5_4 {V : VS} {w : Nat} {A : CW} {i j : Nat} {x : Int32} : vup (putC V w A) 5 w i 4 j x = putC V w (aup A 5 i 4 j x) := vupD rfl
theorem rC_6_3 {V : VS} {w : Nat} {A : CW} {i j : Nat} : putC V w A 6 w i 3 j = A 6 i 3 j := putD_at rfl
theorem vC_6_3 {V : VS} {w : Nat} {A : CW} {i j : Nat} {x : Int32} : vup (putC V w A) 6 w i 3 j x = putC V w (aup A 6 i 3 j x) := vupD rfl
theorem rC_6_4 {V : VS} {w : Nat} {A : CW} {i j : Nat} : putC V w A 6 w i 4 j = A 6 i 4 j := putD_at rfl
theorem vC_6_4 {V : VS} {w : Nat} {A : CW} {i j : Nat} {x : Int32} : vup (putC V w A) 6 w i 4 j x = putC V w (aup A 6 i 4 j x) := vupD rfl
theorem rC_6_5 {V : VS} {w : Nat} {A : CW} {i j : Nat} : putC V w A 6 w i 5 j = A 6 i 5 j := putD_at rfl
theorem vC_6_5 {V : VS} {w : Nat} {A : CW} {i j : Nat} {x : Int32} : vup (putC V w A) 6 w i 5 j x = putC V w (aup A 6 i 5 j x) := vupD rfl
theorem rC_7_4 {V : VS} {w : Nat} {A : CW} {i j : Nat} : putC V w A 7 w i 4 j = A 7 i 4 j := putD_at rfl
theorem vC_7_4 {V : VS} {w : Nat} {A : CW} {i j : Nat} {x : Int32} : vup (putC V w A) 7 w i 4 j x = putC V w (aup A 7 i 4 j x) := vupD rfl
theorem rC_7_5 {V : VS} {w : Nat} {A : CW} {i j : Nat} : putC V w A 7 w i 5 j = A 7 i 5 j := putD_at rfl
theorem vC_7_5 {V : VS} {w : Nat} {A : CW} {i j : Nat} {x : Int32} : vup (putC V w A) 7 w i 5 j x = putC V w (aup A 7 i 5 j x) := vupD rfl
theorem rC_7_6 {V : VS} {w : Nat} {A : CW} {i j : Nat} : putC V w A 7 w i 6 j = A 7 i 6 j := putD_at rfl
theorem vC_7_6 {V : VS} {w : Nat} {A : CW} {i j : Nat} {x : Int32} : vup (putC V w A) 7 w i 6 j x = putC V w (aup A 7 i 6 j x) := vupD rfl
theorem rC_7_7 {V : VS} {w : Nat} {A : CW} {i j : Nat} : putC V w A 7 w i 7 j = A 7 i 7 j := putD_at rfl
theorem vC_7_7 {V : VS} {w : Nat} {A : CW} {i j : Nat} {x : Int32} : vup (putC V w A) 7 w i 7 j x = putC V w (aup A 7 i 7 j x) := vupD rfl
theorem rC_8_1 {V : VS} {w : Nat} {A : CW} {i j : Nat} : putC V w A 8 w i 1 j = A 8 i 1 j := putD_at rfl
theorem vC_8_1 {V : VS} {w : Nat} {A : CW} {i j : Nat} {x : Int32} : vup (putC V w A) 8 w i 1 j x = putC V w (aup A 8 i 1 j x) := vupD rfl
theorem rC_9_0 {V : VS} {w : Nat} {A : CW} {i j : Nat} : putC V w A 9 w i 0 j = A 9 i 0 j := putD_at rfl
theorem vC_9_0 {V : VS} {w : Nat} {A : CW} {i j : Nat} {x : Int32} : vup (putC V w A) 9 w i 0 j x = putC V w (aup A 9 i 0 j x) := vupD rfl
theorem rC_11_0 {V : VS} {w : Nat} {A : CW} {i j : Nat} : putC V w A 11 w i 0 j = A 11 i 0 j := putD_at rfl
theorem vC_11_0 {V : VS} {w : Nat} {A : CW} {i j : Nat} {x : Int32} : vup (putC V w A) 11 w i 0 j x = putC V w (aup A 11 i 0 j x) := vupD rfl
theorem rC_12_1 {V : VS} {w : Nat} {A : CW} {i j : Nat} : putC V w A 12 w i 1 j = A 12 i 1 j := putD_at rfl
theorem vC_12_1 {V : VS} {w : Nat} {A : CW} {i j : Nat} {x : Int32} : vup (putC V w A) 12 w i 1 j x = putC V w (aup A 12 i 1 j x) := vupD rfl
theorem rC_12_2 {V : VS} {w : Nat} {A : CW} {i j : Nat} : putC V w A 12 w i 2 j = A 12 i 2 j := putD_at rfl
theorem vC_12_2 {V : VS} {w : Nat} {A : CW} {i j : Nat} {x : Int32} : vup (putC V w A) 12 w i 2 j x = putC V w (aup A 12 i 2 j x) := vupD rfl
theorem rC_13_0 {V : VS} {w : Nat} {A : CW} {i j : Nat} : putC V w A 13 w i 0 j = A 13 i 0 j := putD_at rfl
theorem vC_13_0 {V : VS} {w : Nat} {A : CW} {i j : Nat} {x : Int32} : vup (putC V w A) 13 w i 0 j x = putC V w (aup A 13 i 0 j x) := vupD rfl
theorem rC_14_0 {V : VS} {w : Nat} {A : CW} {i j : Nat} : putC V w A 14 w i 0 j = A 14 i 0 j := putD_at rfl
theorem vC_14_0 {V : VS} {w : Nat} {A : CW} {i j : Nat} {x : Int32} : vup (putC V w A) 14 w i 0 j x = putC V w (aup A 14 i 0 j x) := vupD rfl
theorem oC_2_2 {V : VS} {w w9 : Nat} {A : CW} {i j : Nat} : putC V w A 2 w9 i 2 j = V 2 w9 i 2 j := putD_off rfl
theorem oC_5_0 {V : VS} {w w9 : Nat} {A : CW} {i j : Nat} : putC V w A 5 w9 i 0 j = V 5 w9 i 0 j := putD_off rfl
theorem oC_5_1 {V : VS} {w w9 : Nat} {A : CW} {i j : Nat} : putC V w A 5 w9 i 1 j = V 5 w9 i 1 j := putD_off rfl
theorem oC_5_2 {V : VS} {w w9 : Nat} {A : CW} {i j : Nat} : putC V w A 5 w9 i 2 j = V 5 w9 i 2 j := putD_off rfl
theorem oC_5_3 {V : VS} {w w9 : Nat} {A : CW} {i j : Nat} : putC V w A 5 w9 i 3 j = V 5 w9 i 3 j := putD_off rfl
theorem oC_6_0 {V : VS} {w w9 : Nat} {A : CW} {i j : Nat} : putC V w A 6 w9 i 0 j = V 6 w9 i 0 j := putD_off rfl
theorem oC_6_1 {V : VS} {w w9 : Nat} {A : CW} {i j : Nat} : putC V w A 6 w9 i 1 j = V 6 w9 i 1 j := putD_off rfl
theorem oC_7_0 {V : VS} {w w9 : Nat} {A : CW} {i j : Nat} : putC V w A 7 w9 i 0 j = V 7 w9 i 0 j := putD_off rfl
theorem oC_7_1 {V : VS} {w w9 : Nat} {A : CW} {i j : Nat} : putC V w A 7 w9 i 1 j = V 7 w9 i 1 j := putD_off rfl
theorem oC_7_2 {V : VS} {w w9 : Nat} {A : CW} {i j : Nat} : putC V w A 7 w9 i 2 j = V 7 w9 i 2 j := putD_off rfl
theorem oC_7_3 {V : VS} {w w9 : Nat} {A : CW} {i j : Nat} : putC V w A 7 w9 i 3 j = V 7 w9 i 3 j := putD_off rfl
theorem oC_15_0 {V : VS} {w w9 : Nat} {A : CW} {i j : Nat} : putC V w A 15 w9 i 0 j = V 15 w9 i 0 j := putD_off rfl
theorem oC_15_1 {V : VS} {w w9 : Nat} {A : CW} {i j : Nat} : putC V w A 15 w9 i 1 j = V 15 w9 i 1 j := putD_off rfl
theorem oC_15_2 {V : VS} {w w9 : Nat} {A : CW} {i j : Nat} : putC V w A 15 w9 i 2 j = V 15 w9 i 2 j := putD_off rfl
theorem oC_15_5 {V : VS} {w w9 : Nat} {A : CW} {i j : Nat} : putC V w A 15 w9 i 5 j = V 15 w9 i 5 j := putD_off rfl
theorem oC_15_6 {V : VS} {w w9 : Nat} {A : CW} {i j : Nat} : putC V w A 15 w9 i 6 j = V 15 w9 i 6 j := putD_off rfl
theorem oC_15_8 {V : VS} {w w9 : Nat} {A : CW} {i j : Nat} : putC V w A 15 w9 i 8 j = V 15 w9 i 8 j := putD_off rfl
theorem oC_17_0 {V : VS} {w w9 : Nat} {A : CW} {i j : Nat} : putC V w A 17 w9 i 0 j = V 17 w9 i 0 j := putD_off rfl
theorem oC_18_0 {V : VS} {w w9 : Nat} {A : CW} {i j : Nat} : putC V w A 18 w9 i 0 j = V 18 w9 i 0 j := putD_off rfl
theorem oC_19_0 {V : VS} {w w9 : Nat} {A : CW} {i j : Nat} : putC V w A 19 w9 i 0 j = V 19 w9 i 0 j := putD_off rfl
theorem oC_20_0 {V : VS} {w w9 : Nat} {A : CW} {i j : Nat} : putC V w A 20 w9 i 0 j = V 20 w9 i 0 j := putD_off rfl
theorem oC_21_0 {V : VS} {w w9 : Nat} {A : CW} {i j : Nat} : putC V w A 21 w9 i 0 j = V 21 w9 i 0 j := putD_off rfl
theorem oC_16_0 {V : VS} {w w9 : Nat} {A : CW} {i j : Nat} : putC V w A 16 w9 i 0 j = V 16 w9 i 0 j := putD_off rfl
theorem oC_16_1 {V : VS} {w w9 : Nat} {A : CW} {i j : Nat} : putC V w A 16 w9 i 1 j = V 16 w9 i 1 j := putD_off rfl
theorem oC_16_2 {V : VS} {w w9 : Nat} {A : CW} {i j : Nat} : putC V w A 16 w9 i 2 j = V 16 w9 i 2 j := putD_off rfl
theorem oC_16_5 {V : VS} {w w9 : Nat} {A : CW} {i j : Nat} : putC V w A 16 w9 i 5 j = V 16 w9 i 5 j := putD_off rfl
theorem oC_22_0 {V : VS} {w w9 : Nat} {A : CW} {i j : Nat} : putC V w A 22 w9 i 0 j = V 22 w9 i 0 j := putD_off rfl
theorem oC_23_0 {V : VS} {w w9 : Nat} {A : CW} {i j : Nat} : putC V w A 23 w9 i 0 j = V 23 w9 i 0 j := putD_off rfl
theorem oC_24_0 {V : VS} {w w9 : Nat} {A : CW} {i j : Nat} : putC V w A 24 w9 i 0 j = V 24 w9 i 0 j := putD_off rfl
theorem oC_25_0 {V : VS} {w w9 : Nat} {A : CW} {i j : Nat} : putC V w A 25 w9 i 0 j = V 25 w9 i 0 j := putD_off rfl
theorem oC_26_0 {V : VS} {w w9 : Nat} {A : CW} {i j : Nat} : putC V w A 26 w9 i 0 j = V 26 w9 i 0 j := putD_off rfl
theorem oC_27_0 {V : VS} {w w9 : Nat} {A : CW} {i j : Nat} : putC V w A 27 w9 i 0 j = V 27 w9 i 0 j := putD_off rfl
theorem oC_28_0 {V : VS} {w w9 : Nat} {A : CW} {i j : Nat} : putC V w A 28 w9 i 0 j = V 28 w9 i 0 j := putD_off rfl
theorem oC_29_0 {V : VS} {w w9 : Nat} {A : CW} {i j : Nat} : putC V w A 29 w9 i 0 j = V 29 w9 i 0 j := putD_off rfl
theorem oC_30_0 {V : VS} {w w9 : Nat} {A : CW} {i j : Nat} : putC V w A 30 w9 i 0 j = V 30 w9 i 0 j := putD_off rfl
theorem oC_31_0 {V : VS} {w w9 : Nat} {A : CW} {i j : Nat} : putC V w A 31 w9 i 0 j = V 31 w9 i 0 j := putD_off rfl
theorem oC_32_0 {V : VS} {w w9 : Nat} {A : CW} {i j : Nat} : putC V w A 32 w9 i 0 j = V 32 w9 i 0 j := putD_off rfl
theorem oC_33_0 {V : VS} {w w9 : Nat} {A : CW} {i j : Nat} : putC V w A 33 w9 i 0 j = V 33 w9 i 0 j := putD_off rfl
theorem rM_16_0 {V : VS} {w : Nat} {A : CW} {i j : Nat} : putM V w A 16 w i 0 j = A 16 i 0 j := putD_at rfl
theorem vM_16_0 {V : VS} {w : Nat} {A : CW} {i j : Nat} {x : Int32} : vup (putM V w A) 16 w i 0 j x = putM V w (aup A 16 i 0 j x) := vupD rfl
theorem rM_16_1 {V : VS} {w : Nat} {A : CW} {i j : Nat} : putM V w A 16 w i 1 j = A 16 i 1 j := putD_at rfl
theorem vM_16_1 {V : VS} {w : Nat} {A : CW} {i j : Nat} {x : Int32} : vup (putM V w A) 16 w i 1 j x = putM V w (aup A 16 i 1 j x) := vupD rfl
theorem rM_16_2 {V : VS} {w : Nat} {A : CW} {i j : Nat} : putM V w A 16 w i 2 j = A 16 i 2 j := putD_at rfl
theorem vM_16_2 {V : VS} {w : Nat} {A : CW} {i j : Nat} {x : Int32} : vup (putM V w A) 16 w i 2 j x = putM V w (aup A 16 i 2 j x) := vupD rfl
theorem rM_16_5 {V : VS} {w : Nat} {A : CW} {i j : Nat} : putM V w A 16 w i 5 j = A 16 i 5 j := putD_at rfl
theorem vM_16_5 {V : VS} {w : Nat} {A : CW} {i j : Nat} {x : Int32} : vup (putM V w A) 16 w i 5 j x = putM V w (aup A 16 i 5 j x) := vupD rfl
theorem rM_22_0 {V : VS} {w : Nat} {A : CW} {i j : Nat} : putM V w A 22 w i 0 j = A 22 i 0 j := putD_at rfl
theorem vM_22_0 {V : VS} {w : Nat} {A : CW} {i j : Nat} {x : Int32} : vup (putM V w A) 22 w i 0 j x = putM V w (aup A 22 i 0 j x) := vupD rfl
theorem rM_23_0 {V : VS} {w : Nat} {A : CW} {i j : Nat} : putM V w A 23 w i 0 j = A 23 i 0 j := putD_at rfl
theorem vM_23_0 {V : VS} {w : Nat} {A : CW} {i j : Nat} {x : Int32} : vup (putM V w A) 23 w i 0 j x = putM V w (aup A 23 i 0 j x) := vupD rfl
theorem rM_24_0 {V : VS} {w : Nat} {A : CW} {i j : Nat} : putM V w A 24 w i 0 j = A 24 i 0 j := putD_at rfl
theorem vM_24_0 {V : VS} {w : Nat} {A : CW} {i j : Nat} {x : Int32} : vup (putM V w A) 24 w i 0 j x = putM V w (aup A 24 i 0 j x) := vupD rfl
theorem rM_25_0 {V : VS} {w : Nat} {A : CW} {i j : Nat} : putM V w A 25 w i 0 j = A 25 i 0 j := putD_at rfl
theorem vM_25_0 {V : VS} {w : Nat} {A : CW} {i j : Nat} {x : Int32} : vup (putM V w A) 25 w i 0 j x = putM V w (aup A 25 i 0 j x) := vupD rfl
theorem rM_26_0 {V : VS} {w : Nat} {A : CW} {i j : Nat} : putM V w A 26 w i 0 j = A 26 i 0 j := putD_at rfl
theorem vM_26_0 {V : VS} {w : Nat} {A : CW} {i j : Nat} {x : Int32} : vup (putM V w A) 26 w i 0 j x = putM V w (aup A 26 i 0 j x) := vupD rfl
theorem rM_27_0 {V : VS} {w : Nat} {A : CW} {i j : Nat} : putM V w A 27 w i 0 j = A 27 i 0 j := putD_at rfl
theorem vM_27_0 {V : VS} {w : Nat} {A : CW} {i j : Nat} {x : Int32} : vup (putM V w A) 27 w i 0 j x = putM V w (aup A 27 i 0 j x) := vupD rfl
theorem rM_28_0 {V : VS} {w : Nat} {A : CW} {i j : Nat} : putM V w A 28 w i 0 j = A 28 i 0 j := putD_at rfl
theorem vM_28_0 {V : VS} {w : Nat} {A : CW} {i j : Nat} {x : Int32} : vup (putM V w A) 28 w i 0 j x = putM V w (aup A 28 i 0 j x) := vupD rfl
theorem rM_29_0 {V : VS} {w : Nat} {A : CW} {i j : Nat} : putM V w A 29 w i 0 j = A 29 i 0 j := putD_at rfl
theorem vM_29_0 {V : VS} {w : Nat} {A : CW} {i j : Nat} {x : Int32} : vup (putM V w A) 29 w i 0 j x = putM V w (aup A 29 i 0 j x) := vupD rfl
theorem rM_30_0 {V : VS} {w : Nat} {A : CW} {i j : Nat} : putM V w A 30 w i 0 j = A 30 i 0 j := putD_at rfl
theorem vM_30_0 {V : VS} {w : Nat} {A : CW} {i j : Nat} {x : Int32} : vup (putM V w A) 30 w i 0 j x = putM V w (aup A 30 i 0 j x) := vupD rfl
theorem rM_31_0 {V : VS} {w : Nat} {A : CW} {i j : Nat} : putM V w A 31 w i 0 j = A 31 i 0 j := putD_at rfl
theorem vM_31_0 {V : VS} {w : Nat} {A : CW} {i j : Nat} {x : Int32} : vup (putM V w A) 31 w i 0 j x = putM V w (aup A 31 i 0 j x) := vupD rfl
theorem rM_32_0 {V : VS} {w : Nat} {A : CW} {i j : Nat} : putM V w A 32 w i 0 j = A 32 i 0 j := putD_at rfl
theorem vM_32_0 {V : VS} {w : Nat} {A : CW} {i j : Nat} {x : Int32} : vup (putM V w A) 32 w i 0 j x = putM V w (aup A 32 i 0 j x) := vupD rfl
theorem rM_33_0 {V : VS} {w : Nat} {A : CW} {i j : Nat} : putM V w A 33 w i 0 j = A 33 i 0 j := putD_at rfl
theorem vM_33_0 {V : VS} {w : Nat} {A : CW} {i j : Nat} {x : Int32} : vup (putM V w A) 33 w i 0 j x = putM V w (aup A 33 i 0 j x) := vupD rfl
theorem oM_2_2 {V : VS} {w w9 : Nat} {A : CW} {i j : Nat} : putM V w A 2 w9 i 2 j = V 2 w9 i 2 j := putD_off rfl
theorem oM_5_0 {V : VS} {w w9 : Nat} {A : CW} {i j : Nat} : putM V w A 5 w9 i 0 j = V 5 w9 i 0 j := putD_off rfl
theorem oM_5_1 {V : VS} {w w9 : Nat} {A : CW} {i j : Nat} : putM V w A 5 w9 i 1 j = V 5 w9 i 1 j := putD_off rfl
theorem oM_5_2 {V : VS} {w w9 : Nat} {A : CW} {i j : Nat} : putM V w A 5 w9 i 2 j = V 5 w9 i 2 j := putD_off rfl
theorem oM_5_3 {V : VS} {w w9 : Nat} {A : CW} {i j : Nat} : putM V w A 5 w9 i 3 j = V 5 w9 i 3 j := putD_off rfl
theorem oM_5_4 {V : VS} {w w9 : Nat} {A : CW} {i j : Nat} : putM V w A 5 w9 i 4 j = V 5 w9 i 4 j := putD_off rfl
theorem oM_6_0 {V : VS} {w w9 : Nat} {A : CW} {i j : Nat} : putM V w A 6 w9 i 0 j = V 6 w9 i 0 j := putD_off rfl
theorem oM_6_1 {V : VS} {w w9 : Nat} {A : CW} {i j : Nat} : putM V w A 6 w9 i 1 j = V 6 w9 i 1 j := putD_off rfl
theorem oM_6_3 {V : VS} {w w9 : Nat} {A : CW} {i j : Nat} : putM V w A 6 w9 i 3 j = V 6 w9 i 3 j := putD_off rfl
theorem oM_6_4 {V : VS} {w w9 : Nat} {A : CW} {i j : Nat} : putM V w A 6 w9 i 4 j = V 6 w9 i 4 j := putD_off rfl
theorem oM_6_5 {V : VS} {w w9 : Nat} {A : CW} {i j : Nat} : putM V w A 6 w9 i 5 j = V 6 w9 i 5 j := putD_off rfl
theorem oM_7_0 {V : VS} {w w9 : Nat} {A : CW} {i j : Nat} : putM V w A 7 w9 i 0 j = V 7 w9 i 0 j := putD_off rfl
theorem oM_7_1 {V : VS} {w w9 : Nat} {A : CW} {i j : Nat} : putM V w A 7 w9 i 1 j = V 7 w9 i 1 j := putD_off rfl
theorem oM_7_2 {V : VS} {w w9 : Nat} {A : CW} {i j : Nat} : putM V w A 7 w9 i 2 j = V 7 w9 i 2 j := putD_off rfl
theorem oM_7_3 {V : VS} {w w9 : Nat} {A : CW} {i j : Nat} : putM V w A 7 w9 i 3 j = V 7 w9 i 3 j := putD_off rfl
theorem oM_7_4 {V : VS} {w w9 : Nat} {A : CW} {i j : Nat} : putM V w A 7 w9 i 4 j = V 7 w9 i 4 j := putD_off rfl
theorem oM_7_5 {V : VS} {w w9 : Nat} {A : CW} {i j : Nat} : putM V w A 7 w9 i 5 j = V 7 w9 i 5 j := putD_off rfl
theorem oM_7_6 {V : VS} {w w9 : Nat} {A : CW} {i j : Nat} : putM V w A 7 w9 i 6 j = V 7 w9 i 6 j := putD_off rfl
theorem oM_7_7 {V : VS} {w w9 : Nat} {A : CW} {i j : Nat} : putM V w A 7 w9 i 7 j = V 7 w9 i 7 j := putD_off rfl
theorem oM_15_0 {V : VS} {w w9 : Nat} {A : CW} {i j : Nat} : putM V w A 15 w9 i 0 j = V 15 w9 i 0 j := putD_off rfl
theorem oM_15_1 {V : VS} {w w9 : Nat} {A : CW} {i j : Nat} : putM V w A 15 w9 i 1 j = V 15 w9 i 1 j := putD_off rfl
theorem oM_15_2 {V : VS} {w w9 : Nat} {A : CW} {i j : Nat} : putM V w A 15 w9 i 2 j = V 15 w9 i 2 j := putD_off rfl
theorem oM_15_5 {V : VS} {w w9 : Nat} {A : CW} {i j : Nat} : putM V w A 15 w9 i 5 j = V 15 w9 i 5 j := putD_off rfl
theorem oM_15_6 {V : VS} {w w9 : Nat} {A : CW} {i j : Nat} : putM V w A 15 w9 i 6 j = V 15 w9 i 6 j := putD_off rfl
theorem oM_15_8 {V : VS} {w w9 : Nat} {A : CW} {i j : Nat} : putM V w A 15 w9 i 8 j = V 15 w9 i 8 j := putD_off rfl
theorem oM_17_0 {V : VS} {w w9 : Nat} {A : CW} {i j : Nat} : putM V w A 17 w9 i 0 j = V 17 w9 i 0 j := putD_off rfl
theorem oM_18_0 {V : VS} {w w9 : Nat} {A : CW} {i j : Nat} : putM V w A 18 w9 i 0 j = V 18 w9 i 0 j := putD_off rfl
theorem oM_19_0 {V : VS} {w w9 : Nat} {A : CW} {i j : Nat} : putM V w A 19 w9 i 0 j = V 19 w9 i 0 j := putD_off rfl
theorem oM_20_0 {V : VS} {w w9 : Nat} {A : CW} {i j : Nat} : putM V w A 20 w9 i 0 j = V 20 w9 i 0 j := putD_off rfl
theorem oM_21_0 {V : VS} {w w9 : Nat} {A : CW} {i j : Nat} : putM V w A 21 w9 i 0 j = V 21 w9 i 0 j := putD_off rfl
theorem oM_1_7 {V : VS} {w w9 : Nat} {A : CW} {i j : Nat} : putM V w A 1 w9 i 7 j = V 1 w9 i 7 j := putD_off rfl
theorem oM_1_8 {V : VS} {w w9 : Nat} {A : CW} {i j : Nat} : putM V w A 1 w9 i 8 j = V 1 w9 i 8 j := putD_off rfl
theorem oM_4_0 {V : VS} {w w9 : Nat} {A : CW} {i j : Nat} : putM V w A 4 w9 i 0 j = V 4 w9 i 0 j := putD_off rfl
theorem oM_4_1 {V : VS} {w w9 : Nat} {A : CW} {i j : Nat} : putM V w A 4 w9 i 1 j = V 4 w9 i 1 j := putD_off rfl
theorem oM_8_1 {V : VS} {w w9 : Nat} {A : CW} {i j : Nat} : putM V w A 8 w9 i 1 j = V 8 w9 i 1 j := putD_off rfl
theorem oM_9_0 {V : VS} {w w9 : Nat} {A : CW} {i j : Nat} : putM V w A 9 w9 i 0 j = V 9 w9 i 0 j := putD_off rfl
theorem oM_11_0 {V : VS} {w w9 : Nat} {A : CW} {i j : Nat} : putM V w A 11 w9 i 0 j = V 11 w9 i 0 j := putD_off rfl
theorem oM_12_1 {V : VS} {w w9 : Nat} {A : CW} {i j : Nat} : putM V w A 12 w9 i 1 j = V 12 w9 i 1 j := putD_off rfl
theorem oM_12_2 {V : VS} {w w9 : Nat} {A : CW} {i j : Nat} : putM V w A 12 w9 i 2 j = V 12 w9 i 2 j := putD_off rfl
theorem oM_13_0 {V : VS} {w w9 : Nat} {A : CW} {i j : Nat} : putM V w A 13 w9 i 0 j = V 13 w9 i 0 j := putD_off rfl
theorem oM_14_0 {V : VS} {w w9 : Nat} {A : CW} {i j : Nat} : putM V w A 14 w9 i 0 j = V 14 w9 i 0 j := putD_off rfl
