/-! pure: what stands: how many there are, the live keys, the numbers that don't change with days -/
def live (N : Nat → Nat) (x : KY) : Bool := match x.1 with
  | 0 => decide (x.2.1 = 0 ∧ x.2.2 = 0)
  | 1 => decide (x.2.1 ≤ 1 ∧ x.2.2 = 0)
  | 2 => decide (x.2.1 ≤ 1 ∧ x.2.2 ≤ 3)
  | 3 => decide (x.2.1 ≤ 1 ∧ x.2.2 ≤ 3 ∧ N x.2.2 ≠ 0)
  | 4 => decide (x.2.1 ≤ 1 ∧ x.2.2 < N 0)
  | 5 => decide (x.2.1 ≤ 1 ∧ x.2.2 < N 1)
  | 6 => decide (x.2.1 ≤ 1 ∧ x.2.2 < N 2)
  | 7 => decide (x.2.1 ≤ 1 ∧ x.2.2 < N 3)
  | 8 => decide (x.2.1 ≤ 1 ∧ x.2.2 < N 2)
  | 9 => decide (x.2.1 ≤ 1 ∧ x.2.2 < N 2)
  | 10 => decide (x.2.1 ≤ 1 ∧ x.2.2 = 0)
  | 11 => decide (x.2.1 ≤ 1 ∧ x.2.2 = 0)
  | 12 => decide (x.2.1 ≤ 1 ∧ x.2.2 = 0)
  | 13 => decide (x.2.1 ≤ 1 ∧ x.2.2 = 0)
  | 14 => decide (x.2.1 ≤ 1 ∧ x.2.2 = 0)
  | 15 => decide (x.2.1 = 0 ∧ x.2.2 = 0)
  | 16 => decide (x.2.1 ≤ 1 ∧ x.2.2 = 0)
  | 17 => decide (x.2.1 = 0 ∧ x.2.2 = 0)
  | 18 => decide (x.2.1 = 0 ∧ x.2.2 = 0)
  | 19 => decide (x.2.1 = 0 ∧ x.2.2 = 0)
  | 20 => decide (x.2.1 = 0 ∧ x.2.2 = 0)
  | 21 => decide (x.2.1 = 0 ∧ x.2.2 = 0)
  | 34 => decide (x.2.1 = 0 ∧ x.2.2 = 0)
  | k => decide (22 ≤ k ∧ k < 34 ∧ x.2.1 ≤ 1 ∧ x.2.2 = 0)
/-- the slots that days leave alone (the rain and the minutes of the class's first world) -/
def stat (k w f : Nat) : Bool := match k with
  | 2 => f == 2
  | 5 => f < 4
  | 6 => f < 2
  | 7 => f < 4
  | 12 => w == 0 && f == 2
  | 14 => w == 0 && f == 0
  | 15 => f == 1 || f == 2 || f == 5 || f == 6 || f == 8
  | 17 => f == 0
  | 18 => f == 0
  | 19 => f == 0
  | 20 => f == 0
  | _ => false
def SF (V V' : VS) : Prop := ∀ k w i f j, stat k w f = true → V' k w i f j = V k w i f j
/-- S 20 21 22 23: a lane's halts, length, clay; 24 a book's shelf; 25 26 27: a reader's halt, shelf, days; 28 the rain; 29 the minutes -/
def Bs (N : Nat → Nat) (S : Nat → Nat → Nat) (ks : List KY) (V : VS) : Prop :=
  (N 0 ≤ 8 ∧ N 1 ≤ 16 ∧ N 2 ≤ 24 ∧ N 3 ≤ 10) ∧ (∀ x, x ∈ ks ↔ live N x = true) ∧ (∀ w K, w ≤ 1 → K ≤ 3 → V 2 w K 2 0 = nI (N K)) ∧
  (V 15 0 0 1 0 = nI (N 0) ∧ V 15 0 0 2 0 = nI (N 1) ∧ V 15 0 0 6 0 = nI (N 2) ∧ V 15 0 0 8 0 = nI (N 3)) ∧
  (∀ w i, w ≤ 1 → i < N 1 → V 5 w i 0 0 = nI (S 20 i) ∧ V 5 w i 1 0 = nI (S 21 i) ∧ V 5 w i 2 0 = nI (S 22 i) ∧ V 5 w i 3 0 = nI (S 23 i)) ∧
  (∀ w i, w ≤ 1 → i < N 2 → V 6 w i 0 0 = nI i ∧ V 6 w i 1 0 = nI (S 24 i)) ∧
  (∀ w i, w ≤ 1 → i < N 3 → V 7 w i 0 0 = nI i ∧ V 7 w i 1 0 = nI (S 25 i) ∧ V 7 w i 2 0 = nI (S 26 i) ∧ V 7 w i 3 0 = nI (S 27 i)) ∧
  (∀ i, i < N 1 → V 17 0 0 0 (4 * i) = nI (S 20 i) ∧ V 17 0 0 0 (4 * i + 1) = nI (S 21 i) ∧ V 17 0 0 0 (4 * i + 2) = nI (S 22 i) ∧ V 17 0 0 0 (4 * i + 3) = nI (S 23 i)) ∧
  (∀ i, i < N 2 → V 19 0 0 0 i = nI (S 24 i)) ∧
  (∀ i, i < N 3 → V 20 0 0 0 (3 * i) = nI (S 25 i) ∧ V 20 0 0 0 (3 * i + 1) = nI (S 26 i) ∧ V 20 0 0 0 (3 * i + 2) = nI (S 27 i)) ∧
  ((∀ d, d < 7 → V 18 0 0 0 d = nI (S 28 d) ∧ V 14 0 0 0 d = nI (S 28 d)) ∧ V 15 0 0 5 0 = nI (S 29 0) ∧ V 12 0 0 2 0 = nI (S 29 0)) ∧
  ((∀ i, i < N 1 → S 20 i < N 0 ∧ S 21 i < N 0 ∧ S 20 i ≠ S 21 i ∧ 1 ≤ S 22 i ∧ S 22 i ≤ 30 ∧ S 23 i ≤ 9) ∧ (∀ i, i < N 2 → S 24 i ≤ 5) ∧
   (∀ i, i < N 3 → S 25 i < N 0 ∧ S 26 i ≤ 5 ∧ 1 ≤ S 27 i ∧ S 27 i ≤ 30) ∧ (∀ d, d < 7 → S 28 d ≤ 9) ∧ 10 ≤ S 29 0 ∧ S 29 0 ≤ 300)
/-- the rain and the minutes of a world of the class -/
def Rn (S : Nat → Nat → Nat) (w : Nat) (V : VS) : Prop := (∀ d, d < 7 → V 14 w 0 0 d = nI (S 28 d)) ∧ V 12 w 0 2 0 = nI (S 29 0)
section
variable {N : Nat → Nat} {S : Nat → Nat → Nat} {ks : List KY} {V V' : VS} {w t i : Nat}
theorem Bs.of (h : Bs N S ks V) (hs : SF V V') : Bs N S ks V' := by
  obtain ⟨h1, h2, h3, h4, h5, h6, h7, h8, h9, h10, h11, h12⟩ := h
  refine ⟨h1, h2, fun w K hw hK => by rw [hs _ _ _ _ _ rfl]; exact h3 w K hw hK, ?_, fun w i hw hi => ?_, fun w i hw hi => ?_, fun w i hw hi => ?_, fun i hi => ?_, fun i hi => by rw [hs _ _ _ _ _ rfl]; exact h9 i hi, fun i hi => ?_, ?_, h12⟩
  · rw [hs _ _ _ _ _ rfl, hs _ _ _ _ _ rfl, hs _ _ _ _ _ rfl, hs _ _ _ _ _ rfl]; exact h4
  · rw [hs _ _ _ _ _ rfl, hs _ _ _ _ _ rfl, hs _ _ _ _ _ rfl, hs _ _ _ _ _ rfl]; exact h5 w i hw hi
  · rw [hs _ _ _ _ _ rfl, hs _ _ _ _ _ rfl]; exact h6 w i hw hi
  · rw [hs _ _ _ _ _ rfl, hs _ _ _ _ _ rfl, hs _ _ _ _ _ rfl, hs _ _ _ _ _ rfl]; exact h7 w i hw hi
  · rw [hs _ _ _ _ _ rfl, hs _ _ _ _ _ rfl, hs _ _ _ _ _ rfl, hs _ _ _ _ _ rfl]; exact h8 i hi
  · rw [hs _ _ _ _ _ rfl, hs _ _ _ _ _ rfl, hs _ _ _ _ _ rfl]; exact h10 i hi
  · refine ⟨fun d hd => ?_, ?_, ?_⟩
    · rw [hs _ _ _ _ _ rfl, hs _ _ _ _ _ rfl]; exact h11.1 d hd
    · rw [hs _ _ _ _ _ rfl]; exact h11.2.1
    · rw [hs _ _ _ _ _ rfl]; exact h11.2.2
theorem SF.rf : SF V V := fun _ _ _ _ _ _ => rfl
theorem SF.tr {V'' : VS} (h : SF V V') (h2 : SF V' V'') : SF V V'' := fun k w i f j e => (h2 k w i f j e).trans (h k w i f j e)
theorem cfld_stat {k w f : Nat} (h : stat k w f = true) : cfld k f = 99 := by
  refine Classical.byContradiction fun c => ?_
  unfold cfld at c
  split at c <;> first | (revert h; decide) | exact c rfl | (unfold stat at h; simp at h)
theorem mfld_stat {k w f : Nat} (h : stat k w f = true) : mfld k f = 99 := by
  refine Classical.byContradiction fun c => ?_
  unfold mfld at c
  split at c <;> first | (revert h; decide) | exact c rfl | (unfold stat at h; simp at h)
theorem stat_k {k w f : Nat} (h : stat k w f = true) : k ≠ 11 ∧ k ≠ 21 ∧ k ≠ 34 ∧ (k = 15 → f ≠ 0) := by
  unfold stat at h
  split at h <;> first | (refine ⟨by decide, by decide, by decide, fun e => absurd e (by decide)⟩; done) | (refine ⟨by decide, by decide, by decide, fun e z => ?_⟩; subst z; exact absurd h (by decide)) | exact absurd h (by decide)
theorem SF.c {N9 : Nat → Nat} {A : AF} {D : Nat → Int32} : SF V (cput N9 w A D V) := fun k w i f j e => cput_o (cfld_stat e) (stat_k e).1
theorem SF.m {A : AF} {T : Nat → Int32} : SF V (mput t A T V) := fun k w i f j e => mput_o (mfld_stat e) (stat_k e).2.1
theorem SF.th {x : Int32} : SF V (vup V 15 0 0 0 0 x) := fun k w i f j e => by
  unfold vup
  exact if_neg (fun z => (stat_k e).2.2.2 z.1 z.2.2.2.1)
theorem SF.out {x : Int32} : SF V (vup V 34 0 0 0 0 x) := fun k w i f j e => by
  unfold vup
  exact if_neg (fun z => (stat_k e).2.2.1 z.1)
theorem Bs.c (h : Bs N S ks V) {N9 : Nat → Nat} {A : AF} {D : Nat → Int32} : Bs N S ks (cput N9 w A D V) := h.of SF.c
theorem Bs.m (h : Bs N S ks V) {A : AF} {T : Nat → Int32} : Bs N S ks (mput t A T V) := h.of SF.m
theorem Rn.c {N9 : Nat → Nat} {w9 : Nat} (h : Rn S w V) {A : AF} {D : Nat → Int32} : Rn S w (cput N9 w9 A D V) := ⟨fun d hd => by rw [cput_o rfl (by decide)]; exact h.1 d hd, by rw [cput_o rfl (by decide)]; exact h.2⟩
theorem Bs.rn (h : Bs N S ks V) : Rn S 0 V := ⟨fun d hd => (h.2.2.2.2.2.2.2.2.2.2.1.1 d hd).2, h.2.2.2.2.2.2.2.2.2.2.1.2.2⟩
theorem Bs.n (h : Bs N S ks V) : N 0 ≤ 8 ∧ N 1 ≤ 16 ∧ N 2 ≤ 24 ∧ N 3 ≤ 10 := h.1
theorem Bs.le (h : Bs N S ks V) {K : Nat} (hK : K ≤ 3) : N K ≤ 24 := by
  have := h.1
  rcases (by omega : K = 0 ∨ K = 1 ∨ K = 2 ∨ K = 3) with rfl | rfl | rfl | rfl <;> omega
theorem Bs.sz (h : Bs N S ks V) {K : Nat} (hw : w ≤ 1) (hK : K ≤ 3) : V 2 w K 2 0 = nI (N K) := h.2.2.1 w K hw hK
theorem Bs.ky (h : Bs N S ks V) {x : KY} (hx : live N x = true) : x ∈ ks := (h.2.1 x).mpr hx
theorem Bs.k0 (h : Bs N S ks V) : (0, 0, 0) ∈ ks := h.ky rfl
theorem Bs.k1 (h : Bs N S ks V) (hw : w ≤ 1) : (1, w, 0) ∈ ks := h.ky (decide_eq_true ⟨hw, rfl⟩)
theorem Bs.k2 (h : Bs N S ks V) {K : Nat} (hw : w ≤ 1) (hK : K ≤ 3) : (2, w, K) ∈ ks := h.ky (decide_eq_true ⟨hw, hK⟩)
theorem Bs.k3 (h : Bs N S ks V) {K : Nat} (hw : w ≤ 1) (hK : K ≤ 3) (h0 : i < N K) : (3, w, K) ∈ ks := h.ky (decide_eq_true ⟨hw, hK, fun z => by rw [z] at h0; exact Nat.not_lt_zero _ h0⟩)
theorem Bs.k4 (h : Bs N S ks V) (hw : w ≤ 1) (hi : i < N 0) : (4, w, i) ∈ ks := h.ky (decide_eq_true ⟨hw, hi⟩)
theorem Bs.k5 (h : Bs N S ks V) (hw : w ≤ 1) (hi : i < N 1) : (5, w, i) ∈ ks := h.ky (decide_eq_true ⟨hw, hi⟩)
theorem Bs.k6 (h : Bs N S ks V) (hw : w ≤ 1) (hi : i < N 2) : (6, w, i) ∈ ks := h.ky (decide_eq_true ⟨hw, hi⟩)
theorem Bs.k7 (h : Bs N S ks V) (hw : w ≤ 1) (hi : i < N 3) : (7, w, i) ∈ ks := h.ky (decide_eq_true ⟨hw, hi⟩)
theorem Bs.k8 (h : Bs N S ks V) (hw : w ≤ 1) (hi : i < N 2) : (8, w, i) ∈ ks := h.ky (decide_eq_true ⟨hw, hi⟩)
theorem Bs.k9 (h : Bs N S ks V) (hw : w ≤ 1) (hi : i < N 2) : (9, w, i) ∈ ks := h.ky (decide_eq_true ⟨hw, hi⟩)
theorem Bs.k10 (h : Bs N S ks V) (hw : w ≤ 1) : (10, w, 0) ∈ ks := h.ky (decide_eq_true ⟨hw, rfl⟩)
theorem Bs.k11 (h : Bs N S ks V) (hw : w ≤ 1) : (11, w, 0) ∈ ks := h.ky (decide_eq_true ⟨hw, rfl⟩)
theorem Bs.k12 (h : Bs N S ks V) (hw : w ≤ 1) : (12, w, 0) ∈ ks := h.ky (decide_eq_true ⟨hw, rfl⟩)
theorem Bs.k13 (h : Bs N S ks V) (hw : w ≤ 1) : (13, w, 0) ∈ ks := h.ky (decide_eq_true ⟨hw, rfl⟩)
theorem Bs.k14 (h : Bs N S ks V) (hw : w ≤ 1) : (14, w, 0) ∈ ks := h.ky (decide_eq_true ⟨hw, rfl⟩)
theorem Bs.k15 (h : Bs N S ks V) : (15, 0, 0) ∈ ks := h.ky rfl
theorem Bs.k16 (h : Bs N S ks V) (hw : w ≤ 1) : (16, w, 0) ∈ ks := h.ky (decide_eq_true ⟨hw, rfl⟩)
theorem Bs.k17 (h : Bs N S ks V) : (17, 0, 0) ∈ ks := h.ky rfl
theorem Bs.k18 (h : Bs N S ks V) : (18, 0, 0) ∈ ks := h.ky rfl
theorem Bs.k19 (h : Bs N S ks V) : (19, 0, 0) ∈ ks := h.ky rfl
theorem Bs.k20 (h : Bs N S ks V) : (20, 0, 0) ∈ ks := h.ky rfl
theorem Bs.k21 (h : Bs N S ks V) : (21, 0, 0) ∈ ks := h.ky rfl
theorem Bs.k34 (h : Bs N S ks V) : (34, 0, 0) ∈ ks := h.ky rfl
theorem Bs.km (h : Bs N S ks V) {k : Nat} (hk : 22 ≤ k) (hk2 : k < 34) (hw : w ≤ 1) : (k, w, 0) ∈ ks := h.ky (by
  rcases (by omega : k = 22 ∨ k = 23 ∨ k = 24 ∨ k = 25 ∨ k = 26 ∨ k = 27 ∨ k = 28 ∨ k = 29 ∨ k = 30 ∨ k = 31 ∨ k = 32 ∨ k = 33) with rfl | rfl | rfl | rfl | rfl | rfl | rfl | rfl | rfl | rfl | rfl | rfl <;> exact decide_eq_true ⟨Nat.le_of_ble_eq_true rfl, Nat.le_of_ble_eq_true rfl, hw, rfl⟩)
theorem Bs.m1 (h : Bs N S ks V) : V 15 0 0 1 0 = nI (N 0) := h.2.2.2.1.1
theorem Bs.m2 (h : Bs N S ks V) : V 15 0 0 2 0 = nI (N 1) := h.2.2.2.1.2.1
theorem Bs.m6 (h : Bs N S ks V) : V 15 0 0 6 0 = nI (N 2) := h.2.2.2.1.2.2.1
theorem Bs.m8 (h : Bs N S ks V) : V 15 0 0 8 0 = nI (N 3) := h.2.2.2.1.2.2.2
theorem Bs.ln (h : Bs N S ks V) (hw : w ≤ 1) (hi : i < N 1) : V 5 w i 0 0 = nI (S 20 i) ∧ V 5 w i 1 0 = nI (S 21 i) ∧ V 5 w i 2 0 = nI (S 22 i) ∧ V 5 w i 3 0 = nI (S 23 i) := h.2.2.2.2.1 w i hw hi
theorem Bs.bk (h : Bs N S ks V) (hw : w ≤ 1) (hi : i < N 2) : V 6 w i 0 0 = nI i ∧ V 6 w i 1 0 = nI (S 24 i) := h.2.2.2.2.2.1 w i hw hi
theorem Bs.rd (h : Bs N S ks V) (hw : w ≤ 1) (hi : i < N 3) : V 7 w i 0 0 = nI i ∧ V 7 w i 1 0 = nI (S 25 i) ∧ V 7 w i 2 0 = nI (S 26 i) ∧ V 7 w i 3 0 = nI (S 27 i) := h.2.2.2.2.2.2.1 w i hw hi
theorem Bs.mln (h : Bs N S ks V) (hi : i < N 1) : V 17 0 0 0 (4 * i) = nI (S 20 i) ∧ V 17 0 0 0 (4 * i + 1) = nI (S 21 i) ∧ V 17 0 0 0 (4 * i + 2) = nI (S 22 i) ∧ V 17 0 0 0 (4 * i + 3) = nI (S 23 i) := h.2.2.2.2.2.2.2.1 i hi
theorem Bs.mbk (h : Bs N S ks V) (hi : i < N 2) : V 19 0 0 0 i = nI (S 24 i) := h.2.2.2.2.2.2.2.2.1 i hi
theorem Bs.mrd (h : Bs N S ks V) (hi : i < N 3) : V 20 0 0 0 (3 * i) = nI (S 25 i) ∧ V 20 0 0 0 (3 * i + 1) = nI (S 26 i) ∧ V 20 0 0 0 (3 * i + 2) = nI (S 27 i) := h.2.2.2.2.2.2.2.2.2.1 i hi
theorem Bs.mrain (h : Bs N S ks V) {d : Nat} (hd : d < 7) : V 18 0 0 0 d = nI (S 28 d) := (h.2.2.2.2.2.2.2.2.2.2.1.1 d hd).1
theorem Bs.mmin (h : Bs N S ks V) : V 15 0 0 5 0 = nI (S 29 0) := h.2.2.2.2.2.2.2.2.2.2.1.2.1
theorem Bs.sln (h : Bs N S ks V) (hi : i < N 1) : S 20 i < N 0 ∧ S 21 i < N 0 ∧ S 20 i ≠ S 21 i ∧ 1 ≤ S 22 i ∧ S 22 i ≤ 30 ∧ S 23 i ≤ 9 := h.2.2.2.2.2.2.2.2.2.2.2.1 i hi
theorem Bs.sbk (h : Bs N S ks V) (hi : i < N 2) : S 24 i ≤ 5 := h.2.2.2.2.2.2.2.2.2.2.2.2.1 i hi
theorem Bs.srd (h : Bs N S ks V) (hi : i < N 3) : S 25 i < N 0 ∧ S 26 i ≤ 5 ∧ 1 ≤ S 27 i ∧ S 27 i ≤ 30 := h.2.2.2.2.2.2.2.2.2.2.2.2.2.1 i hi
theorem Bs.srain (h : Bs N S ks V) {d : Nat} (hd : d < 7) : S 28 d ≤ 9 := h.2.2.2.2.2.2.2.2.2.2.2.2.2.2.1 d hd
theorem Bs.smin (h : Bs N S ks V) : 10 ≤ S 29 0 ∧ S 29 0 ≤ 300 := h.2.2.2.2.2.2.2.2.2.2.2.2.2.2.2
/-- an element of a list of the class -/
theorem lget {K : Nat} {P : Nat → Prop} (h : Bs N S ks V) (hw : w ≤ 1) (hK : K ≤ 3) (hi : i < N K) (hp : P i) :
    (3, w, K) ∈ ks ∧ lsz V w K ≤ 33 ∧ (¬ nI i < 0 ∧ nI i < V 2 w K 2 0) ∧ ∀ j : Nat, j = (nI i).toNatClampNeg → P j := by
  have hle := h.le hK
  refine ⟨h.k3 hw hK hi, ?_, ⟨nI_pos (by omega), ?_⟩, fun j hj => ?_⟩
  · show (V 2 w K 2 0).toNatClampNeg ≤ 33
    rw [h.sz hw hK, nI_clamp (by omega)]; omega
  · rw [h.sz hw hK]; exact nI_lt hi (by omega)
  · rw [nI_clamp (by omega)] at hj; subst hj; exact hp
end
