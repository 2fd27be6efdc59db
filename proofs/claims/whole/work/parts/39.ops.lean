/-! the calls that only ask -/
def IV (B : Nat) (N : Nat → Nat) (S : Nat → Nat → Nat) (A : AF) (ks : List KY) (V : VS) : Prop := Bs N S ks V ∧ WF B N A ∧ isC N 0 A V ∧ isM 0 A V
def Inv (k : Nat) (ks : List KY) (V : VS) : Prop := ∃ N S A, IV (60 * k) N S A ks V
section
variable {B : Nat} {N : Nat → Nat} {S : Nat → Nat → Nat} {ks : List KY} {V X : VS} {w t h l b r i p q k n c a : Nat} {A : AF} {D T : Nat → Int32} {x : Int32} {d : Int64}
theorem IV.th (h : IV B N S A ks V) : IV B N S A ks (vup V 15 0 0 0 0 x) := ⟨h.1.of SF.th, h.2.1, isC_v (by decide) h.2.2.1, isM_v (Or.inl rfl) h.2.2.2⟩
theorem IV.out (h : IV B N S A ks V) : IV B N S A ks (vup V 34 0 0 0 0 x) := ⟨h.1.of SF.out, h.2.1, isC_v (by decide) h.2.2.1, isM_v (Or.inr rfl) h.2.2.2⟩
theorem IV.inv (hk : B ≤ 60 * k) (h : IV B N S A ks V) : Inv k ks V := by
  obtain ⟨h1, ⟨⟨d, hd, e⟩, h2⟩, h3, h4⟩ := h
  exact ⟨N, S, A, h1, ⟨⟨d, Nat.le_trans hd hk, e⟩, h2⟩, h3, h4⟩
theorem Inv_s (h : Inv k ks V) : Inv (k + 1) ks V := by
  obtain ⟨N, S, A, h⟩ := h
  exact h.inv (by omega)
theorem vup_th {x : Int32} : vup V 15 0 0 0 0 x 15 0 0 0 0 = x := vup_eq
/-- the model's end: what it threw -/
theorem v_thrown {post : Int32 → VS → Prop} (hB : Bs N S ks V) {y : Int32} (hy : V 15 0 0 0 0 = y) (hp : post y V) : wp_X10_thrown ks V post := ⟨hB.k15, by rw [hy]; exact hp⟩
theorem v_kX {post : VS → Prop} {xp : Nat → VS → Prop} {a0 a1 : Int32} (h : a0 < 0 ∨ a1 ≤ a0) (hp : xp 1 X) : wp_X8_needKind ks a0 a1 X post xp := by
  refine ⟨fun _ => hp, fun c => ⟨fun c2 => ?_, fun _ => hp⟩⟩
  rcases h with h | h
  · exact absurd h c
  · exact absurd c2 (Int32.not_lt.mpr h)
theorem v_kO {post : VS → Prop} {xp : Nat → VS → Prop} {a1 : Int32} (hi : i < n) (hn : n < 2 ^ 31) (e : a1 = nI n) (hp : post X) : wp_X8_needKind ks (nI i) a1 X post xp := by
  subst e
  exact ⟨fun z => absurd z (nI_pos (by omega)), fun _ => ⟨fun _ => hp, fun c => absurd (nI_lt hi hn) c⟩⟩
theorem v_inX {post : Int32 → VS → Prop} {a0 a1 a2 : Int32} (h : a0 < a1 ∨ a2 < a0) (hp : post 0 X) : wp_X8_isWithin ks a0 a1 a2 X post := by
  refine ⟨fun _ => hp, fun c => ⟨fun _ => hp, fun c2 => ?_⟩⟩
  rcases h with h | h
  · exact absurd h c
  · exact absurd h c2
theorem v_inO {post : Int32 → VS → Prop} {a0 a1 a2 : Int32} (h : ¬ (a0 < a1 ∨ a2 < a0)) (hp : post 1 X) : wp_X8_isWithin ks a0 a1 a2 X post :=
  ⟨fun c => absurd (Or.inl c) h, fun _ => ⟨fun c => absurd (Or.inr c) h, fun _ => hp⟩⟩
theorem u_inX {post : Int32 → VS → Prop} {a0 a1 a2 : Int32} (h : a0 < a1 ∨ a2 < a0) (hp : post 0 X) : wp_X10_isIn ks a0 a1 a2 X post := by
  refine ⟨fun _ => hp, fun c => ⟨fun _ => hp, fun c2 => ?_⟩⟩
  rcases h with h | h
  · exact absurd h c
  · exact absurd h c2
theorem u_inO {post : Int32 → VS → Prop} {a0 a1 a2 : Int32} (h : ¬ (a0 < a1 ∨ a2 < a0)) (hp : post 1 X) : wp_X10_isIn ks a0 a1 a2 X post :=
  ⟨fun c => absurd (Or.inl c) h, fun _ => ⟨fun c => absurd (Or.inr c) h, fun _ => hp⟩⟩
theorem m1_lt {y : Int32} (hn : n < 2 ^ 31) (h0 : ¬ y < 0) (h : nI n ≤ y) : nI n - 1 < y := by
  obtain ⟨j, hj, rfl⟩ := nI_of h0
  have h := (nI_leI hn hj).mp h
  rcases n with _ | n
  · have a := Int32.not_lt.mp h0
    have b := Int32.le_iff_toInt_le.mp a
    refine Int32.lt_iff_toInt_lt.mpr ?_
    have c : (nI 0 - 1).toInt = -1 := by decide
    have d : (0 : Int32).toInt = 0 := by decide
    omega
  · rw [nI_pred]; exact nI_lt (by omega) hj
/-- outside of a row of n -/
theorem u_nX {post : Int32 → VS → Prop} {y z : Int32} (hn : n < 2 ^ 31) (e : z = nI n) (h : y < 0 ∨ nI n ≤ y) (hp : post 0 X) : wp_X10_isIn ks y 0 (z - 1) X post := by
  subst e
  by_cases c : y < 0
  · exact u_inX (Or.inl c) hp
  · rcases h with h | h
    · exact absurd h c
    · exact u_inX (Or.inr (m1_lt hn c h)) hp
theorem u_nO {post : Int32 → VS → Prop} {z : Int32} (hi : i < n) (hn : n < 2 ^ 31) (e : z = nI n) (hp : post 1 X) : wp_X10_isIn ks (nI i) 0 (z - 1) X post := by
  subst e
  refine u_inO (fun c => ?_) hp
  rcases c with c | c
  · exact nI_pos (by omega) c
  · rw [show nI n - 1 = nI (n - 1) from pk_sub (a := n) (b := 1) (by omega)] at c
    exact nI_nlt (by omega) (by omega) c
/-- inside or outside of constants -/
theorem in_kind {y : Int32} (n : Nat) (hn : n < 2 ^ 31) : (y < 0 ∨ nI n ≤ y) ∨ ∃ j, j < n ∧ y = nI j := by
  rcases pk_ix y hn with h | h | h
  · exact Or.inl (Or.inl h)
  · exact Or.inl (Or.inr h)
  · exact Or.inr h
theorem u_halt0 {post : Int32 → VS → Prop} {y : Int32} (hX : Bs N S ks X) (h : y < 0 ∨ nI (N 0) ≤ y) (hp : post 0 X) : wp_X10_isHalt ks y X post := ⟨hX.k15, u_nX (by have := hX.n; omega) hX.m1 h ⟨Or.inl rfl, hp⟩⟩
theorem u_halt1 {post : Int32 → VS → Prop} (hX : Bs N S ks X) (h : i < N 0) (hp : post 1 X) : wp_X10_isHalt ks (nI i) X post := ⟨hX.k15, u_nO h (by have := hX.n; omega) hX.m1 ⟨Or.inr rfl, hp⟩⟩
theorem u_reader0 {post : Int32 → VS → Prop} {y : Int32} (hX : Bs N S ks X) (h : y < 0 ∨ nI (N 3) ≤ y) (hp : post 0 X) : wp_X10_isReader ks y X post := ⟨hX.k15, u_nX (by have := hX.n; omega) hX.m8 h ⟨Or.inl rfl, hp⟩⟩
theorem u_reader1 {post : Int32 → VS → Prop} (hX : Bs N S ks X) (h : i < N 3) (hp : post 1 X) : wp_X10_isReader ks (nI i) X post := ⟨hX.k15, u_nO h (by have := hX.n; omega) hX.m8 ⟨Or.inr rfl, hp⟩⟩
theorem u_book0 {post : Int32 → VS → Prop} {y : Int32} (hX : Bs N S ks X) (h : y < 0 ∨ nI (N 2) ≤ y) (hp : post 0 X) : wp_X10_isBook ks y X post := ⟨hX.k15, u_nX (by have := hX.n; omega) hX.m6 h ⟨Or.inl rfl, hp⟩⟩
theorem u_book1 {post : Int32 → VS → Prop} (hX : Bs N S ks X) (h : i < N 2) (hp : post 1 X) : wp_X10_isBook ks (nI i) X post := ⟨hX.k15, u_nO h (by have := hX.n; omega) hX.m6 ⟨Or.inr rfl, hp⟩⟩
theorem v_halt0 {post : VS → Prop} {xp : Nat → VS → Prop} {y : Int32} (hX : Bs N S ks X) (h : y < 0 ∨ nI (N 0) ≤ y) (hp : xp 1 X) : wp_X8_needHalt ks y X post xp := ⟨hX.k0, hX.k1 (Nat.zero_le _), hX.k2 (Nat.zero_le _) (by decide), by rw [hX.sz (Nat.zero_le _) (by decide)]; exact v_kX h hp⟩
theorem v_halt1 {post : VS → Prop} {xp : Nat → VS → Prop} (hX : Bs N S ks X) (h : i < N 0) (hp : post X) : wp_X8_needHalt ks (nI i) X post xp := ⟨hX.k0, hX.k1 (Nat.zero_le _), hX.k2 (Nat.zero_le _) (by decide), v_kO h (by have := hX.n; omega) (hX.sz (Nat.zero_le _) (by decide)) hp⟩
theorem v_reader0 {post : VS → Prop} {xp : Nat → VS → Prop} {y : Int32} (hX : Bs N S ks X) (h : y < 0 ∨ nI (N 3) ≤ y) (hp : xp 1 X) : wp_X8_needReader ks y X post xp := ⟨hX.k0, hX.k1 (Nat.zero_le _), hX.k2 (Nat.zero_le _) (by decide), by rw [hX.sz (Nat.zero_le _) (by decide)]; exact v_kX h hp⟩
theorem v_reader1 {post : VS → Prop} {xp : Nat → VS → Prop} (hX : Bs N S ks X) (h : i < N 3) (hp : post X) : wp_X8_needReader ks (nI i) X post xp := ⟨hX.k0, hX.k1 (Nat.zero_le _), hX.k2 (Nat.zero_le _) (by decide), v_kO h (by have := hX.n; omega) (hX.sz (Nat.zero_le _) (by decide)) hp⟩
theorem v_book0 {post : VS → Prop} {xp : Nat → VS → Prop} {y : Int32} (hX : Bs N S ks X) (h : y < 0 ∨ nI (N 2) ≤ y) (hp : xp 1 X) : wp_X8_needBook ks y X post xp := ⟨hX.k0, hX.k1 (Nat.zero_le _), hX.k2 (Nat.zero_le _) (by decide), by rw [hX.sz (Nat.zero_le _) (by decide)]; exact v_kX h hp⟩
theorem v_book1 {post : VS → Prop} {xp : Nat → VS → Prop} (hX : Bs N S ks X) (h : i < N 2) (hp : post X) : wp_X8_needBook ks (nI i) X post xp := ⟨hX.k0, hX.k1 (Nat.zero_le _), hX.k2 (Nat.zero_le _) (by decide), v_kO h (by have := hX.n; omega) (hX.sz (Nat.zero_le _) (by decide)) hp⟩
/-- both refuse: nothing is changed -/
theorem u_no {ct k0 : Int32} (hI : IV B N S A ks V) (hk : B ≤ 60 * k) (e : ct = k0) (h0 : k0 ≠ 0) : wp_X10_no ks ct V (fun b V2 => wp_X10_thrown ks V2 (fun t V3 => t = k0 ∧ (k0 = 0 → V3 34 0 0 0 0 = b) ∧ (34, 0, 0) ∈ ks ∧ Inv k ks V3)) := by
  refine ⟨hI.1.k15, ?_⟩
  rintro _ rfl
  exact v_thrown (hI.th (x := ct)).1 vup_th ⟨e, fun z => absurd z h0, hI.1.k34, hI.th.inv hk⟩
/-- both answer alike -/
theorem u_alike {y z : Int32} (hI : IV B N S A ks V) (hk : B ≤ 60 * k) (h15 : V 15 0 0 0 0 = 0) (h34 : V 34 0 0 0 0 = y) (e : z = y) : wp_X10_thrown ks V (fun t V3 => t = 0 ∧ ((0 : Int32) = 0 → V3 34 0 0 0 0 = z) ∧ (34, 0, 0) ∈ ks ∧ Inv k ks V3) :=
  v_thrown hI.1 h15 ⟨rfl, fun _ => h34.trans e.symm, hI.1.k34, hI.inv hk⟩
theorem ot34 {x : Int32} : vup (vup V 34 0 0 0 0 x) 15 0 0 0 0 0 34 0 0 0 0 = x := by
  rw [vup_ne (by decide)]; exact vup_eq
theorem clC {P : VS → Prop} (hC : isC N w A V) (hp : P (cput N w A (V 11 w 0 0) V)) : P V := by
  rw [hC.eq]; exact hp
theorem clM {P : VS → Prop} (hM : isM t A V) (hp : P (mput t A (V 21 0 0 0) V)) : P V := by
  rw [hM.eq]; exact hp
theorem o_halt {a1 a2 : Int32} (hI : IV B N S A ks V) (hk : B ≤ 60 * k) : sp_halt (Inv k) ks a1 a2 V := by
  have hn := hI.1.n
  have h1 := fun {x : Int32} => (hI.th (x := x)).1
  rcases in_kind (y := a1) (N 0) (by omega) with ha1 | ⟨i, hi, rfl⟩
  · exact ⟨hI.1.k0, hI.1.k34, hI.1.k0, v_halt0 hI.1 ha1 ⟨rfl, hI.1.k15, hI.1.k15, fun _ e => by subst e; exact u_halt0 h1 ha1 ⟨fun _ => u_no hI.th hk rfl (by decide), fun z => absurd rfl z⟩⟩⟩
  rcases in_kind (y := a2) 5 (by decide) with ha2 | ⟨a, ha, rfl⟩
  · exact ⟨hI.1.k0, hI.1.k34, hI.1.k0, v_halt1 hI.1 hi (v_kX ha2 ⟨rfl, hI.1.k15, hI.1.k15, fun _ e => by subst e; exact u_halt1 h1 hi ⟨fun z => absurd z (by decide), fun _ => u_nX (n := 5) (z := 5) (by decide) rfl ha2 ⟨fun _ => u_no hI.th hk rfl (by decide), fun z => absurd rfl z⟩⟩⟩)⟩
  refine ⟨hI.1.k0, hI.1.k34, hI.1.k0, v_halt1 hI.1 hi (v_kO ha (by decide) rfl ⟨hI.1.k1 (Nat.zero_le _), ?_⟩)⟩
  refine clC (P := fun V9 => wp_X7_haltAnswer ks 0 (nI i) (nI a) V9 _) hI.2.2.1 (t_haltAns hI.1 (Nat.zero_le _) hI.2.1 hi ha ?_)
  rw [← hI.2.2.1.eq]
  refine ⟨hI.1.k15, hI.1.k15, ?_⟩
  rintro _ rfl
  have hI2 := (hI.out (x := ansH N S A i a)).th (x := 0)
  refine u_halt1 hI2.1 hi ⟨fun z => absurd z (by decide), fun _ => u_nO (n := 5) (z := 5) ha (by decide) rfl ⟨fun z => absurd z (by decide), fun _ => ?_⟩⟩
  refine clM (P := fun V9 => wp_X10_haltTold ks (nI i) (nI a) V9 _) hI2.2.2.2 (m_haltTold hI2.1 hI2.2.1 hi ha ?_)
  rw [← hI2.2.2.2.eq]
  exact u_alike hI2 hk vup_th ot34 rfl
end
