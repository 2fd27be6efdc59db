/-! pure: sums, counts, the first of many -/
def sm : Nat → (Nat → Int32) → Int32
  | 0, _ => 0
  | n + 1, g => sm n g + g n
def ct : Nat → (Nat → Bool) → Nat
  | 0, _ => 0
  | n + 1, p => ct n p + (if p n = true then 1 else 0)
def orr : Nat → (Nat → Int32) → Int32
  | 0, _ => 0
  | n + 1, g => orr n g ||| g n
theorem sm_congr {n : Nat} {g g' : Nat → Int32} (h : ∀ i, i < n → g' i = g i) : sm n g' = sm n g := by
  induction n with
  | zero => rfl
  | succ n ih =>
    show sm n g' + g' n = sm n g + g n
    rw [ih (fun i hi => h i (by omega)), h n (by omega)]
theorem orr_congr {n : Nat} {g g' : Nat → Int32} (h : ∀ i, i < n → g' i = g i) : orr n g' = orr n g := by
  induction n with
  | zero => rfl
  | succ n ih =>
    show orr n g' ||| g' n = orr n g ||| g n
    rw [ih (fun i hi => h i (by omega)), h n (by omega)]
theorem ct_congr {n : Nat} {p p' : Nat → Bool} (h : ∀ i, i < n → p' i = p i) : ct n p' = ct n p := by
  induction n with
  | zero => rfl
  | succ n ih =>
    show ct n p' + (if p' n = true then 1 else 0) = ct n p + (if p n = true then 1 else 0)
    rw [ih (fun i hi => h i (by omega)), h n (by omega)]
theorem sm_add {n b : Nat} {g g' : Nat → Int32} {x : Int32} (hb : b < n) (h : ∀ i, i < n → i ≠ b → g' i = g i) (e : g' b = g b + x) : sm n g' = sm n g + x := by
  induction n with
  | zero => omega
  | succ n ih =>
    show sm n g' + g' n = sm n g + g n + x
    by_cases c : b = n
    · subst c
      rw [sm_congr (fun i hi => h i (by omega) (by omega)), e, Int32.add_assoc]
    · rw [ih (by omega) (fun i hi => h i (by omega)), h n (by omega) (Ne.symm c), Int32.add_assoc, Int32.add_comm x, ← Int32.add_assoc]
theorem orr_add {n b : Nat} {g g' : Nat → Int32} {x : Int32} (hb : b < n) (h : ∀ i, i < n → i ≠ b → g' i = g i) (e : g' b = g b ||| x) : orr n g' = orr n g ||| x := by
  induction n with
  | zero => omega
  | succ n ih =>
    show orr n g' ||| g' n = orr n g ||| g n ||| x
    by_cases c : b = n
    · subst c
      rw [orr_congr (fun i hi => h i (by omega) (by omega)), e, Int32.or_assoc]
    · rw [ih (by omega) (fun i hi => h i (by omega)), h n (by omega) (Ne.symm c), Int32.or_assoc, Int32.or_comm x, ← Int32.or_assoc]
theorem ct_add {n b : Nat} {p p' : Nat → Bool} (hb : b < n) (h : ∀ i, i < n → i ≠ b → p' i = p i) (e : p b = false) (e' : p' b = true) : ct n p' = ct n p + 1 := by
  induction n with
  | zero => omega
  | succ n ih =>
    show ct n p' + (if p' n = true then 1 else 0) = ct n p + (if p n = true then 1 else 0) + 1
    by_cases c : b = n
    · subst c
      rw [ct_congr (fun i hi => h i (by omega) (by omega)), e, e', if_pos rfl, if_neg (by decide)]
    · rw [ih (by omega) (fun i hi => h i (by omega)), h n (by omega) (Ne.symm c)]
      omega
theorem ct_le (n : Nat) (p : Nat → Bool) : ct n p ≤ n := by
  induction n with
  | zero => exact Nat.le_refl 0
  | succ n ih =>
    show ct n p + (if p n = true then 1 else 0) ≤ n + 1
    split <;> omega
theorem ct_zero {n : Nat} {p : Nat → Bool} (h : ∀ i, i < n → p i = false) : ct n p = 0 := by
  induction n with
  | zero => rfl
  | succ n ih =>
    show ct n p + (if p n = true then 1 else 0) = 0
    rw [ih (fun i hi => h i (by omega)), h n (by omega)]
    rfl
theorem ct_pos {n b : Nat} {p : Nat → Bool} (hb : b < n) (h : p b = true) : 0 < ct n p := by
  induction n with
  | zero => omega
  | succ n ih =>
    show 0 < ct n p + (if p n = true then 1 else 0)
    by_cases c : b = n
    · subst c; rw [if_pos h]; omega
    · have := ih (by omega); omega
theorem sm_ct (n : Nat) (p : Nat → Bool) : sm n (fun i => if p i = true then 1 else 0) = nI (ct n p) := by
  induction n with
  | zero => rfl
  | succ n ih =>
    show sm n (fun i => if p i = true then 1 else 0) + (if p n = true then 1 else 0) = nI (ct n p + (if p n = true then 1 else 0))
    rw [ih]
    split
    · exact nI_add _ 1
    · exact nI_add _ 0
theorem sm_zero {n : Nat} {g : Nat → Int32} (h : ∀ i, i < n → g i = 0) : sm n g = 0 := by
  induction n with
  | zero => rfl
  | succ n ih =>
    show sm n g + g n = 0
    rw [ih (fun i hi => h i (by omega)), h n (by omega)]; rfl
theorem orr_zero {n : Nat} {g : Nat → Int32} (h : ∀ i, i < n → g i = 0) : orr n g = 0 := by
  induction n with
  | zero => rfl
  | succ n ih =>
    show orr n g ||| g n = 0
    rw [ih (fun i hi => h i (by omega)), h n (by omega)]; rfl
/-- the first below n; n if there is none -/
def fnd : Nat → (Nat → Bool) → Nat
  | 0, _ => 0
  | n + 1, p => if fnd n p < n then fnd n p else if p n = true then n else n + 1
theorem fnd_le (n : Nat) (p : Nat → Bool) : fnd n p ≤ n := by
  induction n with
  | zero => exact Nat.le_refl 0
  | succ n ih =>
    unfold fnd
    split
    · omega
    · split <;> omega
theorem fnd_none {n : Nat} {p : Nat → Bool} (h : ∀ i, i < n → p i = false) : fnd n p = n := by
  induction n with
  | zero => rfl
  | succ n ih =>
    unfold fnd
    rw [ih (fun i hi => h i (by omega)), if_neg (Nat.lt_irrefl n), h n (by omega)]
    rfl
theorem fnd_at {n i : Nat} {p : Nat → Bool} (hi : i < n) (h : p i = true) (h2 : ∀ j, j < i → p j = false) : fnd n p = i := by
  induction n with
  | zero => omega
  | succ n ih =>
    unfold fnd
    by_cases c : i = n
    · subst c
      rw [fnd_none h2, if_neg (Nat.lt_irrefl i), if_pos h]
    · have e := ih (by omega)
      rw [e, if_pos (by omega)]
theorem fnd_tt {n : Nat} {p : Nat → Bool} (h : fnd n p < n) : p (fnd n p) = true := by
  induction n with
  | zero => exact absurd h (Nat.lt_irrefl 0)
  | succ n ih =>
    unfold fnd at h ⊢
    by_cases c : fnd n p < n
    · rw [if_pos c]; exact ih c
    · rw [if_neg c] at h ⊢
      by_cases c2 : p n = true
      · rw [if_pos c2]; exact c2
      · rw [if_neg c2] at h; omega
theorem fnd_congr {n : Nat} {p p' : Nat → Bool} (h : ∀ i, i < n → p' i = p i) : fnd n p' = fnd n p := by
  induction n with
  | zero => rfl
  | succ n ih =>
    unfold fnd
    rw [ih (fun i hi => h i (by omega)), h n (by omega)]
/-- as many pigeons as holes at most -/
theorem php {m : Nat} : ∀ {n : Nat} {f : Nat → Nat}, (∀ i, i < n → f i < m) → (∀ i j, i < j → j < n → f i ≠ f j) → n ≤ m := by
  induction m with
  | zero =>
    intro n f h _
    rcases n with _ | n
    · exact Nat.le_refl 0
    · exact absurd (h 0 (by omega)) (Nat.not_lt_zero _)
  | succ m ih =>
    intro n f h hd
    by_cases c : ∃ i, i < n ∧ f i = m
    · obtain ⟨i, hi, e⟩ := c
      have h2 : n - 1 ≤ m := by
        refine ih (n := n - 1) (f := fun j => if j < i then f j else f (j + 1)) (fun j hj => ?_) (fun j k hjk hk => ?_)
        · show (if j < i then f j else f (j + 1)) < m
          split
          · next c => have a := h j (by omega); have b := hd j i c hi; omega
          · next c => have a := h (j + 1) (by omega); have b := hd i (j + 1) (by omega) (by omega); omega
        · show (if j < i then f j else f (j + 1)) ≠ (if k < i then f k else f (k + 1))
          split
          · split
            · exact hd j k hjk (by omega)
            · exact hd j (k + 1) (by omega) (by omega)
          · rw [if_neg (by omega)]
            exact hd (j + 1) (k + 1) (by omega) (by omega)
      omega
    · have := ih (n := n) (f := f) (fun i hi => by have a := h i hi; have b : f i ≠ m := fun e => c ⟨i, hi, e⟩; omega) hd
      omega
theorem af_ext {A B : AF} (L : List Nat) (h : ∀ f, f ∈ L → ∀ i j, A f i j = B f i j) (h2 : ∀ f, f ∉ L → ∀ i j, A f i j = B f i j) : A = B := by
  funext f i j
  by_cases c : f ∈ L
  · exact h f c i j
  · exact h2 f c i j
theorem nI_inj {a b : Nat} (ha : a < 2 ^ 31) (hb : b < 2 ^ 31) (h : nI a = nI b) : a = b := (nI_eq ha hb).mp h
theorem nI_m1 {a : Nat} (ha : a < 2 ^ 31) : nI a ≠ -1 := fun h => nI_pos ha (by rw [h]; decide)
