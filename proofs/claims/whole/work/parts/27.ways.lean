/-! pure: the quickest ways -/
def mN (A : AF) (l : Nat) : Nat := (A 2 l 0).toNatClampNeg
def useL (A : AF) (l : Nat) : Bool := decide (mN A l ≤ 12)
def cst (S : Nat → Nat → Nat) (A : AF) (l : Nat) : Nat := S 22 l + mN A l / 2
def e0 : Nat → Nat → Nat := fun x y => if x = y then 0 else 1000000
def elan (S : Nat → Nat → Nat) (A : AF) (l : Nat) (E : Nat → Nat → Nat) : Nat → Nat → Nat := fun x y => if useL A l = true ∧ ((x = S 20 l ∧ y = S 21 l) ∨ (x = S 21 l ∧ y = S 20 l)) then min (E x y) (cst S A l) else E x y
def eph (k : Nat) (E : Nat → Nat → Nat) : Nat → Nat → Nat := fun x y => min (E x y) (E x k + E k y)
def dl (N : Nat → Nat) (S : Nat → Nat → Nat) (A : AF) : Nat → Nat → Nat := itn (elan S A) (N 1) e0
def dt (N : Nat → Nat) (S : Nat → Nat → Nat) (A : AF) : Nat → Nat → Nat := itn eph (N 0) (dl N S A)
/-- both ways alike, none to itself, and never more than far -/
def Sy (E : Nat → Nat → Nat) : Prop := (∀ x y, E x y = E y x) ∧ (∀ x, E x x = 0) ∧ ∀ x y, E x y ≤ 1000000
section
variable {N : Nat → Nat} {S : Nat → Nat → Nat} {A : AF} {E T : Nat → Nat → Nat} {k l x y z : Nat}
theorem Sy_e0 : Sy e0 := by
  refine ⟨fun x y => ?_, fun x => if_pos rfl, fun x y => ?_⟩
  · unfold e0
    by_cases c : x = y
    · rw [if_pos c, if_pos c.symm]
    · rw [if_neg c, if_neg (fun z => c z.symm)]
  · unfold e0; split <;> omega
theorem Sy_lan (h : Sy E) (hne : S 20 l ≠ S 21 l) : Sy (elan S A l E) := by
  refine ⟨fun x y => ?_, fun x => ?_, fun x y => ?_⟩
  · unfold elan
    by_cases c : useL A l = true ∧ ((x = S 20 l ∧ y = S 21 l) ∨ (x = S 21 l ∧ y = S 20 l))
    · rw [if_pos c, if_pos ⟨c.1, by omega⟩, h.1 x y]
    · rw [if_neg c, if_neg (fun z => c ⟨z.1, by omega⟩), h.1 x y]
  · unfold elan
    rw [if_neg (fun z => by omega)]; exact h.2.1 x
  · unfold elan
    have := h.2.2 x y
    split <;> omega
theorem Sy_ph (h : Sy E) : Sy (eph k E) := by
  refine ⟨fun x y => ?_, fun x => ?_, fun x y => ?_⟩
  · unfold eph; rw [h.1 x y, h.1 x k, h.1 k y, Nat.add_comm]
  · unfold eph; rw [h.2.1 x]; omega
  · unfold eph; have := h.2.2 x y; omega
theorem Sy_dl (hne : ∀ l, l < N 1 → S 20 l ≠ S 21 l) : Sy (dl N S A) := by
  have key : ∀ i, i ≤ N 1 → Sy (itn (elan S A) i e0) := by
    intro i
    induction i with
    | zero => intro _; exact Sy_e0
    | succ i ih => intro hi; exact Sy_lan (ih (by omega)) (hne i (by omega))
  exact key _ (Nat.le_refl _)
theorem Sy_phs (h : Sy E) (i : Nat) : Sy (itn eph i E) := by
  induction i with
  | zero => exact h
  | succ i ih => exact Sy_ph ih
theorem Sy_dt (hne : ∀ l, l < N 1 → S 20 l ≠ S 21 l) : Sy (dt N S A) := Sy_phs (Sy_dl hne) _
theorem phs_le (i : Nat) : itn eph i E x y ≤ E x y := by
  induction i with
  | zero => exact Nat.le_refl _
  | succ i ih =>
    show min (itn eph i E x y) _ ≤ E x y
    omega
theorem dl_lane (hl : l < N 1) (hu : useL A l = true) : dl N S A (S 20 l) (S 21 l) ≤ cst S A l ∧ dl N S A (S 21 l) (S 20 l) ≤ cst S A l := by
  have key : ∀ i, l < i → itn (elan S A) i e0 (S 20 l) (S 21 l) ≤ cst S A l ∧ itn (elan S A) i e0 (S 21 l) (S 20 l) ≤ cst S A l := by
    intro i
    induction i with
    | zero => intro h; omega
    | succ i ih =>
      intro h
      have mono : ∀ x y, elan S A i (itn (elan S A) i e0) x y ≤ itn (elan S A) i e0 x y := by
        intro x y
        unfold elan
        split <;> omega
      by_cases c : l = i
      · subst c
        constructor
        · show elan S A l _ _ _ ≤ _
          unfold elan
          rw [if_pos ⟨hu, Or.inl ⟨rfl, rfl⟩⟩]; omega
        · show elan S A l _ _ _ ≤ _
          unfold elan
          rw [if_pos ⟨hu, Or.inr ⟨rfl, rfl⟩⟩]; omega
      · have h2 := ih (by omega)
        exact ⟨Nat.le_trans (mono _ _) h2.1, Nat.le_trans (mono _ _) h2.2⟩
  exact key _ hl
theorem dt_lane (hl : l < N 1) (hu : useL A l = true) : dt N S A (S 20 l) (S 21 l) ≤ cst S A l ∧ dt N S A (S 21 l) (S 20 l) ≤ cst S A l := ⟨Nat.le_trans (phs_le _) (dl_lane hl hu).1, Nat.le_trans (phs_le _) (dl_lane hl hu).2⟩
theorem tri0 {a b c : Nat} : min a (b + c) ≤ min b (b + 0) + min c (0 + c) := by
  rw [Nat.add_zero, Nat.zero_add, Nat.min_self, Nat.min_self]
  exact Nat.min_le_right _ _
theorem tri1 {xy xi iy xv iv vy vi : Nat} (h1 : xy ≤ xv + vy) (h2 : iy ≤ iv + vy) (h3 : xi ≤ xv + vi) : min xy (xi + iy) ≤ min xv (xi + iv) + min vy (vi + iy) := by
  rcases Nat.le_total xv (xi + iv) with a | a
  · rw [Nat.min_eq_left a]
    rcases Nat.le_total vy (vi + iy) with b | b
    · rw [Nat.min_eq_left b]; exact Nat.le_trans (Nat.min_le_left _ _) h1
    · rw [Nat.min_eq_right b]; exact Nat.le_trans (Nat.min_le_right _ _) (by omega)
  · rw [Nat.min_eq_right a]
    rcases Nat.le_total vy (vi + iy) with b | b
    · rw [Nat.min_eq_left b]; exact Nat.le_trans (Nat.min_le_right _ _) (by omega)
    · rw [Nat.min_eq_right b]; exact Nat.le_trans (Nat.min_le_right _ _) (by omega)
theorem phs_tri (h : Sy E) : ∀ i v, v < i → ∀ x y, itn eph i E x y ≤ itn eph i E x v + itn eph i E v y := by
  intro i
  induction i with
  | zero => intro v hv; omega
  | succ i ih =>
    intro v hv x y
    have hs := Sy_phs h i
    show min (itn eph i E x y) (itn eph i E x i + itn eph i E i y) ≤ min (itn eph i E x v) (itn eph i E x i + itn eph i E i v) + min (itn eph i E v y) (itn eph i E v i + itn eph i E i y)
    by_cases c : v = i
    · subst c
      have h1 := hs.2.1 v
      rw [h1]
      exact tri0
    · exact tri1 (ih v (by omega) x y) (ih v (by omega) i y) (ih v (by omega) x i)
theorem dt_tri (hne : ∀ l, l < N 1 → S 20 l ≠ S 21 l) (hz : z < N 0) : dt N S A x y ≤ dt N S A x z + dt N S A z y := phs_tri (Sy_dl hne) _ z hz x y
/-- what no lane makes shorter -/
def Fx (N : Nat → Nat) (S : Nat → Nat → Nat) (A : AF) (T : Nat → Nat → Nat) (n : Nat) : Prop := ∀ l, l < n → useL A l = true → ∀ y, y < N 0 → T (S 20 l) y ≤ cst S A l + T (S 21 l) y ∧ T (S 21 l) y ≤ cst S A l + T (S 20 l) y
theorem fx_le (hT : ∀ x y, x < N 0 → y < N 0 → T x y ≤ 1000000) (h0 : ∀ x, x < N 0 → T x x = 0) (hF : Fx N S A T (N 1)) (hx : x < N 0) (hy : y < N 0) : T x y ≤ dt N S A x y := by
  have k1 : ∀ i, i ≤ N 1 → ∀ x z y, x < N 0 → z < N 0 → y < N 0 → T x y ≤ itn (elan S A) i e0 x z + T z y := by
    intro i
    induction i with
    | zero =>
      intro _ x z y hx hz hy
      show T x y ≤ e0 x z + T z y
      unfold e0
      by_cases c : x = z
      · rw [if_pos c, c]; omega
      · rw [if_neg c]; have := hT x y hx hy; omega
    | succ i ih =>
      intro hi x z y hx hz hy
      have h1 := ih (by omega) x z y hx hz hy
      show T x y ≤ elan S A i (itn (elan S A) i e0) x z + T z y
      generalize itn (elan S A) i e0 = E at h1
      unfold elan
      split
      · next c =>
        have h2 := hF i (by omega) c.1 y hy
        rcases c.2 with ⟨e1, e2⟩ | ⟨e1, e2⟩
        · rw [e1, e2] at h1 ⊢; omega
        · rw [e1, e2] at h1 ⊢; omega
      · exact h1
  have k2 : ∀ i, i ≤ N 0 → ∀ x z y, x < N 0 → z < N 0 → y < N 0 → T x y ≤ itn eph i (dl N S A) x z + T z y := by
    intro i
    induction i with
    | zero => intro _; exact k1 _ (Nat.le_refl _)
    | succ i ih =>
      intro hi x z y hx hz hy
      have h1 := ih (by omega) x z y hx hz hy
      have h2 := ih (by omega) x i y hx (by omega) hy
      have h3 := ih (by omega) i z y (by omega) hz hy
      show T x y ≤ min (itn eph i (dl N S A) x z) (itn eph i (dl N S A) x i + itn eph i (dl N S A) i z) + T z y
      rcases Nat.le_total (itn eph i (dl N S A) x z) (itn eph i (dl N S A) x i + itn eph i (dl N S A) i z) with a | a
      · rw [Nat.min_eq_left a]; exact h1
      · rw [Nat.min_eq_right a]; omega
  have := k2 _ (Nat.le_refl _) x y y hx hy hy
  rw [h0 y hy] at this
  exact this
end
