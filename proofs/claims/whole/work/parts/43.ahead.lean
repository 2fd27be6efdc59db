/-! looking ahead: foresee, gets -/
section
variable {B : Nat} {N : Nat → Nat} {S S' : Nat → Nat → Nat} {ks : List KY} {V V' X : VS} {w t h l b r i p q k n c a m : Nat} {A A' : AF} {D T : Nat → Int32} {x y : Int32} {d : Int64}
theorem IV.rn (hI : IV B N S A ks V) : IV B N S A ks (rnV V) := ⟨hI.1.of SF_rn, hI.2.1, isC_rn hI.2.2.1, isM_rn hI.2.2.2⟩
theorem IV.c1 (hI : IV B N S A ks V) : IV B N S A ks (cput N 1 A' D V) := ⟨hI.1.c, hI.2.1, isC_c (by decide) hI.2.2.1, isM_c hI.2.2.2⟩
theorem IV.m1 (hI : IV B N S A ks V) : IV B N S A ks (mput 1 A' T V) := ⟨hI.1.m, hI.2.1, isC_m hI.2.2.1, isM_m (by decide) hI.2.2.2⟩
theorem v_loans0 {post : Int32 → VS → Prop} (hI : IV B N S A ks V) (hp : post (lentS N A) V) : wp_X7_loansOfAll ks 0 V post := by
  refine clC (P := fun V9 => wp_X7_loansOfAll ks 0 V9 post) hI.2.2.1 (t_loans hI.1 (Nat.zero_le _) ?_)
  rw [← hI.2.2.1.eq]; exact hp
theorem v_misses0 {post : Int32 → VS → Prop} (hI : IV B N S A ks V) (hp : post (missS N A) V) : wp_X7_missesOfAll ks 0 V post := by
  refine clC (P := fun V9 => wp_X7_missesOfAll ks 0 V9 post) hI.2.2.1 (t_misses hI.1 (Nat.zero_le _) ?_)
  rw [← hI.2.2.1.eq]; exact hp
theorem v_missed0 {post : Int32 → VS → Prop} (hI : IV B N S A ks V) (hp : post (missS N A) V) : wp_X9_missedOnes ks 0 V post := by
  refine clM (P := fun V9 => wp_X9_missedOnes ks 0 V9 post) hI.2.2.2 (m_missed hI.1 (Nat.zero_le _) ?_)
  rw [← hI.2.2.2.eq]; exact hp
def fore (N : Nat → Nat) (S : Nat → Nat → Nat) (m : Nat) (A : AF) : Nat → Int32
  | 0 => lentS N (daysF N S m A) - lentS N A
  | 1 => missS N (daysF N S m A) - missS N A
  | 2 => onVan N (daysF N S m A)
  | _ => oweS N (daysF N S m A)
theorem days_of {m0 : Nat} {a1 : Int32} (h9 : (nI m0).toInt = m0) (c : ¬ (a1 < 1 ∨ nI m0 < a1)) : ∃ m, m ≤ m0 ∧ a1 = nI m := nI_of2 (M := nI m0) (n := m0) h9 (fun z => c (Or.inl (Int32.lt_iff_toInt_lt.mpr (by
      have := Int32.lt_iff_toInt_lt.mp z
      have e0 : (0 : Int32).toInt = 0 := by decide
      have e1 : (1 : Int32).toInt = 1 := by decide
      omega)))) (Int32.not_lt.mp (fun z => c (Or.inr z)))
theorem o_foresee {a1 a2 : Int32} (hI : IV B N S A ks V) (hk : B ≤ 60 * k) (hB9 : B < 2 ^ 30) : sp_foresee (Inv k) ks a1 a2 V := by
  have h01 : (0 : Nat) ≤ 1 := Nat.zero_le _
  have h11 : (1 : Nat) ≤ 1 := Nat.le_refl _
  by_cases c : a1 < 1 ∨ (60 : Int32) < a1
  · exact ⟨hI.1.k0, hI.1.k34, v_days0 c (Or.inl ⟨rfl, hI.1.k15, hI.1.k15, fun _ e => by subst e; exact u_inX c ⟨fun _ => u_no hI.th hk rfl (by decide), fun z => absurd rfl z⟩⟩)⟩
  obtain ⟨m, hm, rfl⟩ := days_of (m0 := 60) (by decide) c
  rcases in_kind (y := a2) 4 (by decide) with ha2 | ⟨a, ha, rfl⟩
  · exact ⟨hI.1.k0, hI.1.k34, v_days1 c (v_kX ha2 (Or.inr ⟨rfl, hI.1.k15, hI.1.k15, fun _ e => by subst e; exact u_inO c ⟨fun z => absurd z (by decide), fun _ => u_nX (n := 4) (z := 4) (by decide) rfl ha2 ⟨fun _ => u_no hI.th hk rfl (by decide), fun z => absurd rfl z⟩⟩⟩))⟩
  refine ⟨hI.1.k0, hI.1.k34, v_days1 c (v_kO ha (by decide) rfl ⟨hI.1.k0, hI.1.k1 h11, t_copyFrom hI.1 hI.2.2.1 (fun D1 => t_days hI.rn.1 (Rn_rn hI.1) h11 (by omega) hI.2.1 (fun D2 => ?_))⟩)⟩
  have hI6 : IV B N S A ks (cput N 1 (daysF N S m A) D2 (rnV V)) := hI.rn.c1
  have hWd := WF_days hI.1.sb m (by omega) hI.2.1
  have fin : ∀ y : Int32, y = fore N S m A a → (15, 0, 0) ∈ ks ∧ wp_X10_foresee ks (nI m) (nI a) (vup (cput N 1 (daysF N S m A) D2 (rnV V)) 34 0 0 0 0 y) (fun b V2 => wp_X10_thrown ks V2 (fun t V3 => t = 0 ∧ ((0 : Int32) = 0 → V3 34 0 0 0 0 = b) ∧ (34, 0, 0) ∈ ks ∧ Inv k ks V3)) := by
    rintro _ rfl
    refine ⟨hI.1.k15, hI.1.k15, ?_⟩
    rintro _ rfl
    have hI8 := (hI6.out (x := fore N S m A a)).th (x := 0)
    have e15 : vup (vup (cput N 1 (daysF N S m A) D2 (rnV V)) 34 0 0 0 0 (fore N S m A a)) 15 0 0 0 0 0 15 0 0 0 0 = 0 := vup_th
    have e34 : vup (vup (cput N 1 (daysF N S m A) D2 (rnV V)) 34 0 0 0 0 (fore N S m A a)) 15 0 0 0 0 0 34 0 0 0 0 = fore N S m A a := ot34
    generalize vup (vup (cput N 1 (daysF N S m A) D2 (rnV V)) 34 0 0 0 0 (fore N S m A a)) 15 0 0 0 0 0 = V8 at hI8 e15 e34
    refine u_inO c ⟨fun z => absurd z (by decide), fun _ => u_nO (n := 4) (z := 4) ha (by decide) rfl ⟨fun z => absurd z (by decide), fun _ => ⟨hI.1.k16 h11, m_become hI8.1 hI8.2.2.2 (m_days hI8.1 h11 (by omega) hI.2.1 (fun T2 => ?_))⟩⟩⟩
    have hI9 : IV B N S A ks (mput 1 (daysF N S m A) T2 V8) := hI8.m1
    have f15 : mput 1 (daysF N S m A) T2 V8 15 0 0 0 0 = 0 := (mput_o rfl (by decide)).trans e15
    have f34 : mput 1 (daysF N S m A) T2 V8 34 0 0 0 0 = fore N S m A a := (mput_o rfl (by decide)).trans e34
    refine pk_eq (y := 0) a 0 (fun z => ?_) (fun z0 => pk_eq (y := 1) a 1 (fun z => ?_) (fun z1 => pk_eq (y := 2) a 2 (fun z => ?_) (fun z2 => ?_)))
    · subst z
      refine u_alike hI9 hk f15 f34 ?_
      rw [show daysF N S m A 16 0 0 = lentS N (daysF N S m A) from hWd.2.2.2.2.2.2.1, show A 16 0 0 = lentS N A from hI.2.1.2.2.2.2.2.2.1]
      rfl
    · subst z
      exact m_missed hI8.1 h11 ⟨hI.1.k16 h01, v_missed0 hI9 (u_alike hI9 hk f15 f34 rfl)⟩
    · subst z
      exact m_many hI8.1 h11 (u_alike hI9 hk f15 f34 rfl)
    · obtain rfl : a = 3 := by omega
      exact m_owed hI8.1 h11 (u_alike hI9 hk f15 f34 rfl)
  refine ⟨fun z => ?_, fun z => ?_, fun z => ?_, fun z => ?_⟩
  · obtain rfl := nI_is (c := 0) (by omega) (by decide) rfl z
    exact t_loans hI.rn.1 h11 ⟨hI.1.k1 h01, v_loans0 hI6 (fin _ rfl)⟩
  · obtain rfl := nI_is (c := 1) (by omega) (by decide) rfl z
    exact t_misses hI.rn.1 h11 ⟨hI.1.k1 h01, v_misses0 hI6 (fin _ rfl)⟩
  · obtain rfl := nI_is (c := 2) (by omega) (by decide) rfl z
    exact t_booksOnVan hI.rn.1 h11 (fin _ rfl)
  · have := nI_out (c := 2) (by omega) z
    obtain rfl : a = 3 := by omega
    exact t_pence hI.rn.1 h11 (fin _ rfl)
theorem t_holder {post : Int32 → VS → Prop} (hB : Bs N S ks V) (hw : w ≤ 1) (hb : b < N 2) (hp : post (A 5 b 0) (cput N w A D V)) : wp_X7_holderOf ks w (nI b) (cput N w A D V) post := by
  have hn := hB.n
  have hX : Bs N S ks (cput N w A D V) := hB.c
  refine ⟨fun z => absurd z (nI_pos (by omega)), fun _ => ⟨hX.k1 hw, hX.k2 hw (by decide), ?_⟩⟩
  have hsz := hX.sz hw (K := 2) (by decide)
  rw [hsz]
  refine pk_le (N 2) b (fun z => absurd hb (by omega)) (fun _ => ?_)
  rw [← hsz]
  refine lget hX hw (by decide) hb ⟨hX.k6 hw hb, ?_⟩
  rw [cr5 hb]; exact hp
def gotN (N : Nat → Nat) (S : Nat → Nat → Nat) (A : AF) (b r : Nat) : Nat := fnd 101 (fun n => daysF N S n A 5 b 0 == nI r)
def gotI (N : Nat → Nat) (S : Nat → Nat → Nat) (A : AF) (b r : Nat) : Int32 := if gotN N S A b r < 101 then nI (gotN N S A b r) else -1
theorem gotI_at {i : Nat} (hi : i < 101) (h : daysF N S i A 5 b 0 = nI r) (h2 : ∀ j, j < i → (daysF N S j A 5 b 0 == nI r) = false) : gotI N S A b r = nI i := by
  have e : gotN N S A b r = i := fnd_at (p := fun n => daysF N S n A 5 b 0 == nI r) hi (beq_iff_eq.mpr h) h2
  unfold gotI
  rw [e, if_pos hi]
theorem gotI_no (h2 : ∀ j, j < 101 → (daysF N S j A 5 b 0 == nI r) = false) : gotI N S A b r = -1 := by
  have e : gotN N S A b r = 101 := fnd_none (p := fun n => daysF N S n A 5 b 0 == nI r) h2
  unfold gotI
  rw [e, if_neg (Nat.lt_irrefl _)]
theorem o_gets {a1 a2 : Int32} (hI : IV B N S A ks V) (hk : B ≤ 60 * k) (hB9 : B < 2 ^ 30) : sp_gets (Inv k) ks a1 a2 V := by
  have hn := hI.1.n
  have h01 : (0 : Nat) ≤ 1 := Nat.zero_le _
  have h11 : (1 : Nat) ≤ 1 := Nat.le_refl _
  have h1 := fun {x : Int32} => (hI.th (x := x)).1
  rcases in_kind (y := a1) (N 3) (by omega) with ha1 | ⟨r, hr, rfl⟩
  · exact ⟨hI.1.k0, hI.1.k34, hI.1.k0, v_reader0 hI.1 ha1 ⟨rfl, hI.1.k15, hI.1.k15, fun _ e => by subst e; exact u_reader0 h1 ha1 ⟨fun _ => u_no hI.th hk rfl (by decide), fun z => absurd rfl z⟩⟩⟩
  rcases in_kind (y := a2) (N 2) (by omega) with ha2 | ⟨b, hb, rfl⟩
  · exact ⟨hI.1.k0, hI.1.k34, hI.1.k0, v_reader1 hI.1 hr (v_book0 hI.1 ha2 ⟨rfl, hI.1.k15, hI.1.k15, fun _ e => by subst e; exact u_reader1 h1 hr ⟨fun z => absurd z (by decide), fun _ => u_book0 h1 ha2 ⟨fun _ => u_no hI.th hk rfl (by decide), fun z => absurd rfl z⟩⟩⟩)⟩
  have fin : ∀ (V6 : VS) (y : Int32), IV B N S A ks V6 → y = gotI N S A b r → (15, 0, 0) ∈ ks ∧ wp_X10_gets ks (nI r) (nI b) (vup V6 34 0 0 0 0 y) (fun b V2 => wp_X10_thrown ks V2 (fun t V3 => t = 0 ∧ ((0 : Int32) = 0 → V3 34 0 0 0 0 = b) ∧ (34, 0, 0) ∈ ks ∧ Inv k ks V3)) := by
    intro V6 y hI6 hy
    refine ⟨hI.1.k15, hI.1.k15, ?_⟩
    rintro _ rfl
    have hI8 := (hI6.out (x := y)).th (x := 0)
    have e15 : vup (vup V6 34 0 0 0 0 y) 15 0 0 0 0 0 15 0 0 0 0 = 0 := vup_th
    have e34 : vup (vup V6 34 0 0 0 0 y) 15 0 0 0 0 0 34 0 0 0 0 = y := ot34
    generalize vup (vup V6 34 0 0 0 0 y) 15 0 0 0 0 0 = V8 at hI8 e15 e34
    refine u_reader1 hI8.1 hr ⟨fun z => absurd z (by decide), fun _ => u_book1 hI8.1 hb ⟨fun z => absurd z (by decide), fun _ => ⟨hI.1.k16 h11, m_become hI8.1 hI8.2.2.2 ?_⟩⟩⟩
    refine ⟨fun n x3 V' => ∃ i T', i + n = 100 ∧ x3 = nI i ∧ (∀ j, j < i → (daysF N S j A 5 b 0 == nI r) = false) ∧ V' = mput 1 (daysF N S i A) T' V8, ⟨100, 0, _, rfl, rfl, fun j hj => absurd hj (Nat.not_lt_zero _), rfl⟩, ?_⟩
    rintro n _ _ ⟨i, T1, hi, rfl, hno, rfl⟩
    have e5 : mput 1 (daysF N S i A) T1 V8 26 1 0 0 b = daysF N S i A 5 b 0 := mr5 (by omega)
    have hE : ∀ z : Int32, z = y → wp_X10_thrown ks (mput 1 (daysF N S i A) T1 V8) (fun t V3 => t = 0 ∧ ((0 : Int32) = 0 → V3 34 0 0 0 0 = z) ∧ (34, 0, 0) ∈ ks ∧ Inv k ks V3) := fun z hz => u_alike hI8.m1 hk ((mput_o rfl (by decide)).trans e15) ((mput_o rfl (by decide)).trans e34) hz
    refine ⟨hI.1.k15, hI.1.k16 h11, hI.1.km (by decide) (by decide) h11, pk_in b 24 (by omega), ?_⟩
    rw [nI_clamp (by omega), e5]
    have w73 : wb_X10_gets_73 ks (nI r) (nI b) (fun b V2 => wp_X10_thrown ks V2 (fun t V3 => t = 0 ∧ ((0 : Int32) = 0 → V3 34 0 0 0 0 = b) ∧ (34, 0, 0) ∈ ks ∧ Inv k ks V3)) (nI r) (nI b) (nI i) (mput 1 (daysF N S i A) T1 V8) ↔ (daysF N S i A 5 b 0 = nI r → wp_X10_thrown ks (mput 1 (daysF N S i A) T1 V8) (fun t V3 => t = 0 ∧ ((0 : Int32) = 0 → V3 34 0 0 0 0 = nI i) ∧ (34, 0, 0) ∈ ks ∧ Inv k ks V3)) ∧ (¬ daysF N S i A 5 b 0 = nI r → wp_X10_thrown ks (mput 1 (daysF N S i A) T1 V8) (fun t V3 => t = 0 ∧ ((0 : Int32) = 0 → V3 34 0 0 0 0 = -1) ∧ (34, 0, 0) ∈ ks ∧ Inv k ks V3)) := by
      unfold wb_X10_gets_73
      rw [nI_clamp (by omega), e5]
      exact ⟨fun h => h.2.2.2.2, fun h => ⟨hI.1.k15, hI.1.k16 h11, hI.1.km (by decide) (by decide) h11, pk_in b 24 (by omega), h⟩⟩
    refine ⟨fun c => w73.mpr ⟨fun _ => hE _ (hy.trans (gotI_at (by omega) c hno)).symm, fun z => absurd c z⟩, fun c => ?_⟩
    have hno2 : ∀ j, j < i + 1 → (daysF N S j A 5 b 0 == nI r) = false := fun j hj => by
      by_cases e : j = i
      · rw [e]; exact beq_eq_false_iff_ne.mpr c
      · exact hno j (by omega)
    refine pk_le (x := 100) 100 i (fun c2 => w73.mpr ⟨fun z => absurd z c, fun _ => hE _ (hy.trans (gotI_no (fun j hj => hno2 j (by omega)))).symm⟩) (fun c2 => ?_)
    refine m_pass hI8.1 h11 (by omega) (WF_days hI.1.sb i (by omega) hI.2.1) (fun T2 => ?_)
    rintro _ rfl
    exact ⟨n - 1, by omega, i + 1, T2, by omega, nI_1 i, hno2, rfl⟩
  refine ⟨hI.1.k0, hI.1.k34, hI.1.k0, v_reader1 hI.1 hr (v_book1 hI.1 hb ⟨hI.1.k1 h01, ?_⟩)⟩
  refine clC (P := fun V9 => wp_X7_holderOf ks 0 (nI b) V9 _) hI.2.2.1 (t_holder hI.1 h01 hb ?_)
  rw [← hI.2.2.1.eq]
  refine ⟨fun c => fin _ _ hI (gotI_at (i := 0) (by decide) c (fun j hj => absurd hj (Nat.not_lt_zero _))).symm, fun c => ⟨hI.1.k1 h11, t_copyFrom hI.1 hI.2.2.1 (fun D1 => ?_)⟩⟩
  refine ⟨fun n x3 V' => ∃ i D', i + n = 100 ∧ x3 = nI (i + 1) ∧ (∀ j, j < i + 1 → (daysF N S j A 5 b 0 == nI r) = false) ∧ V' = cput N 1 (daysF N S i A) D' (rnV V), ⟨100, 0, D1, rfl, rfl, fun j hj => ?_, rfl⟩, ?_⟩
  · obtain rfl : j = 0 := by omega
    exact beq_eq_false_iff_ne.mpr c
  rintro n _ _ ⟨i, D2, hi, rfl, hno, rfl⟩
  refine pk_lt (x := 100) 100 (i + 1) (fun c2 => fin _ _ hI.rn.c1 (gotI_no (fun j hj => hno j (by omega))).symm) (fun c2 => ⟨hI.1.k0, hI.1.k1 h11, ?_⟩)
  refine t_days (m := 1) hI.rn.1 (Rn_rn hI.1) h11 (by omega) (WF_days hI.1.sb i (by omega) hI.2.1) (fun D3 => ?_)
  refine t_holder hI.rn.1 h11 hb ⟨fun c3 => fin _ _ hI.rn.c1 (gotI_at (i := i + 1) (by omega) c3 hno).symm, fun c3 => ?_⟩
  rintro _ rfl
  refine ⟨n - 1, by omega, i + 1, D3, by omega, nI_1 (i + 1), fun j hj => ?_, rfl⟩
  by_cases e : j = i + 1
  · rw [e]; exact beq_eq_false_iff_ne.mpr c3
  · exact hno j (by omega)
end
