/-! reserve, cancel, pass, daily -/
section
variable {B : Nat} {N : Nat → Nat} {S S' : Nat → Nat → Nat} {ks : List KY} {V V' X : VS} {w t h l b r i p q k n c a : Nat} {A A' : AF} {D T : Nat → Int32} {x y : Int32} {d : Int64}
theorem fnd_ff {n : Nat} {p : Nat → Bool} (h : ¬ fnd n p < n) : ∀ i, i < n → p i = false := by
  induction n with
  | zero => intro i hi; omega
  | succ n ih =>
    unfold fnd at h
    by_cases c : fnd n p < n
    · rw [if_pos c] at h; omega
    · rw [if_neg c] at h
      by_cases c2 : p n = true
      · rw [if_pos c2] at h; omega
      · intro i hi
        by_cases e : i = n
        · rw [e]; exact Bool.eq_false_iff.mpr c2
        · exact ih c i (by omega)
/-- between the class's call and the model's -/
theorem mid (hI : IV B N S A ks V) : Bs N S ks (vup (vup (cput N 0 A' D V) 34 0 0 0 0 y) 15 0 0 0 0 0) ∧ isC N 0 A' (vup (vup (cput N 0 A' D V) 34 0 0 0 0 y) 15 0 0 0 0 0) ∧ isM 0 A (vup (vup (cput N 0 A' D V) 34 0 0 0 0 y) 15 0 0 0 0 0) ∧ vup (vup (cput N 0 A' D V) 34 0 0 0 0 y) 15 0 0 0 0 0 15 0 0 0 0 = 0 ∧ vup (vup (cput N 0 A' D V) 34 0 0 0 0 y) 15 0 0 0 0 0 34 0 0 0 0 = y :=
  ⟨(hI.1.c.of SF.out).of SF.th, isC_v (by decide) (isC_v (by decide) isC_put), isM_v (Or.inl rfl) (isM_v (Or.inr rfl) (isM_c hI.2.2.2)), vup_th, ot34⟩
/-- the end of a call that has changed the fields to A' -/
theorem u_end {z : Int32} (hB : Bs N S ks V) (hC : isC N 0 A' V) (h15 : V 15 0 0 0 0 = 0) (h34 : V 34 0 0 0 0 = y) (hk : B ≤ 60 * k) (hW : WF B N A') (e : z = y) : wp_X10_thrown ks (mput 0 A' T V) (fun t V3 => t = 0 ∧ ((0 : Int32) = 0 → V3 34 0 0 0 0 = z) ∧ (34, 0, 0) ∈ ks ∧ Inv k ks V3) :=
  u_alike ⟨hB.m, hW, isC_m hC, isM_put⟩ hk ((mput_o rfl (by decide)).trans h15) ((mput_o rfl (by decide)).trans h34) e
def joinA (A : AF) (b q r : Nat) : AF := au (au A 9 b q (nI r)) 8 b 0 (nI (q + 1))
theorem WF_join (hn : N 3 ≤ 10) (hb : b < N 2) (hr : r < N 3) (h8 : A 8 b 0 = nI q) (hq : q ≤ N 3) (hno : ∀ j, j < q → (A 9 b j == nI r) = false) (hW : WF B N A) : q + 1 ≤ N 3 ∧ WF B N (joinA A b q r) := by
  obtain ⟨h1, h2, h3, h4, h5, h6, h7, h8z⟩ := hW
  obtain ⟨q', hq', e, g1, g2⟩ := h4 b hb
  have : q' = q := nI_inj (by omega) (by omega) (e.symm.trans h8)
  subst this
  have hle : q' + 1 ≤ N 3 := by
    refine php (f := fun j => if j < q' then (A 9 b j).toNatClampNeg else r) (fun j hj => ?_) (fun j j' hjj hj' => ?_)
    · show (if j < q' then (A 9 b j).toNatClampNeg else r) < N 3
      split
      · next c =>
        obtain ⟨r', hr', e'⟩ := g1 j c
        rw [e', nI_clamp (by omega)]; exact hr'
      · exact hr
    · show (if j < q' then (A 9 b j).toNatClampNeg else r) ≠ (if j' < q' then (A 9 b j').toNatClampNeg else r)
      rw [if_pos (by omega)]
      obtain ⟨r1, hr1, e1⟩ := g1 j (by omega)
      by_cases c : j' < q'
      · obtain ⟨r2, hr2, e2⟩ := g1 j' c
        rw [if_pos c, e1, e2, nI_clamp (by omega), nI_clamp (by omega)]
        intro z
        exact g2 j j' hjj c (by rw [e1, e2, z])
      · rw [if_neg c, e1, nI_clamp (by omega)]
        intro z
        have := hno j (by omega)
        rw [e1, z, beq_self_eq_true] at this
        exact Bool.noConfusion this
  have e9 : ∀ i j, joinA A b q' r 9 i j = au A 9 b q' (nI r) 9 i j := fun i j => au_f (by decide)
  have e8 : ∀ i, i ≠ b → joinA A b q' r 8 i 0 = A 8 i 0 := fun i hi => (au_i hi).trans (au_f (by decide))
  refine ⟨hle, h1, h2, h3, fun b' hb' => ?_, h5, h6, h7, h8z.1, h8z.2.1, fun b' hb' => ?_, h8z.2.2.2⟩
  · by_cases c : b' = b
    · subst c
      refine ⟨q' + 1, hle, au_at, fun j hj => ?_, fun j j' hjj hj' => ?_⟩
      · rw [e9]
        by_cases c : j = q'
        · subst c; rw [au_at]; exact ⟨r, hr, rfl⟩
        · rw [au_j c]; exact g1 j (by omega)
      · rw [e9, e9, au_j (by omega)]
        by_cases c : j' = q'
        · subst c
          rw [au_at]
          exact fun z => by have := hno j (by omega); rw [z, beq_self_eq_true] at this; exact Bool.noConfusion this
        · rw [au_j c]; exact g2 j j' hjj (by omega)
    · obtain ⟨q2, hq2, e2, k1, k2⟩ := h4 b' hb'
      refine ⟨q2, hq2, by rw [e8 _ c]; exact e2, fun j hj => by rw [e9, au_i c]; exact k1 j hj, fun j j' hjj hj' => by rw [e9, e9, au_i c, au_i c]; exact k2 j j' hjj hj'⟩
  · have c : b' ≠ b := by omega
    have h9 := h8z.2.2.1 b' hb'
    refine ⟨h9.1, ?_, fun j hj => ?_⟩
    · rw [e8 _ c]; exact h9.2.1
    · rw [e9, au_i c]; exact h9.2.2 j hj
theorem o_reserve {a1 a2 : Int32} (hI : IV B N S A ks V) (hk : B ≤ 60 * k) : sp_reserve (Inv k) ks a1 a2 V := by
  have hn := hI.1.n
  have h01 : (0 : Nat) ≤ 1 := Nat.zero_le _
  have h1 := fun {x : Int32} => (hI.th (x := x)).1
  rcases in_kind (y := a1) (N 3) (by omega) with ha1 | ⟨r, hr, rfl⟩
  · exact ⟨hI.1.k0, hI.1.k34, hI.1.k0, v_reader0 hI.1 ha1 (Or.inl ⟨rfl, hI.1.k15, hI.1.k15, fun _ e => by subst e; exact u_reader0 h1 ha1 ⟨fun _ => u_no hI.th hk rfl (by decide), fun z => absurd rfl z⟩⟩)⟩
  rcases in_kind (y := a2) (N 2) (by omega) with ha2 | ⟨b, hb, rfl⟩
  · exact ⟨hI.1.k0, hI.1.k34, hI.1.k0, v_reader1 hI.1 hr (v_book0 hI.1 ha2 (Or.inl ⟨rfl, hI.1.k15, hI.1.k15, fun _ e => by subst e; exact u_reader1 h1 hr ⟨fun z => absurd z (by decide), fun _ => u_book0 h1 ha2 ⟨fun _ => u_no hI.th hk rfl (by decide), fun z => absurd rfl z⟩⟩⟩))⟩
  refine ⟨hI.1.k0, hI.1.k34, hI.1.k0, v_reader1 hI.1 hr (v_book1 hI.1 hb ⟨hI.1.k1 h01, hI.1.k2 h01 (by decide), lget hI.1 h01 (by decide) hb ⟨hI.1.k6 h01 hb, hI.1.k8 h01 hb, ?_⟩⟩)⟩
  have hq8 := WF_q hI.2.1 hn.2.2.2 hb
  have hI9 := hI.th (x := 0)
  -- the model's refusal
  have mno : (plI A b r ≠ -1 ∨ A 5 b 0 = nI r) → (15, 0, 0) ∈ ks ∧ wp_X10_reserve ks (nI r) (nI b) V (fun b V2 => wp_X10_thrown ks V2 (fun t V3 => t = 2 ∧ ((2 : Int32) = 0 → V3 34 0 0 0 0 = b) ∧ (34, 0, 0) ∈ ks ∧ Inv k ks V3)) := by
    intro hno
    refine ⟨hI.1.k15, hI.1.k15, ?_⟩
    rintro _ rfl
    refine u_reader1 h1 hr ⟨fun z => absurd z (by decide), fun _ => u_book1 h1 hb ⟨fun z => absurd z (by decide), fun _ => ⟨hI.1.k16 h01, ?_⟩⟩⟩
    refine clM (P := fun V9 => wp_X9_placeOf ks 0 (nI r) (nI b) V9 _) hI9.2.2.2 (m_placeOf hI9.1 h01 hb hq8.1 (by omega) ?_)
    rw [← hI9.2.2.2.eq]
    have e5 : vup V 15 0 0 0 0 0 26 0 0 0 b = A 5 b 0 := hI9.2.2.2 26 0 b (by decide) (decide_eq_true (Or.inr (show b < 24 by omega)))
    refine ⟨fun c => ⟨hI.1.km (by decide) (by decide) h01, pk_in b 24 (by omega), ?_⟩, fun c => u_no hI9 hk rfl (by decide)⟩
    rw [nI_clamp (by omega), e5]
    refine ⟨fun c2 => u_no hI9 hk rfl (by decide), fun c2 => ?_⟩
    rcases hno with z | z
    · exact absurd c z
    · exact absurd z c2
  refine clC (P := fun V9 => wp_X3_placeOf ks 0 b (nI r) V9 _) hI.2.2.1 (t_placeOf hI.1 h01 hb hq8.1 (by omega) ?_)
  rw [← hI.2.2.1.eq]
  have e5 : V 6 0 b 3 0 = A 5 b 0 := hI.2.2.1 6 b 3 0 (by decide) (decide_eq_true ⟨hb, rfl⟩)
  rw [e5]
  refine ⟨fun c => ⟨fun c2 => Or.inr ⟨rfl, mno (Or.inr c2)⟩, fun c2 => ?_⟩, fun c => Or.inr ⟨rfl, mno (Or.inl c)⟩⟩
  rw [plI_m1 (by omega)] at c
  have hno := fnd_ff c
  obtain ⟨hq1, hWj⟩ := WF_join hn.2.2.2 hb hr hq8.1 hq8.2 hno hI.2.1
  generalize hqq : qN A b = q at hq8 hno hq1 hWj c
  refine clC (P := fun V9 => wp_X3_join ks 0 b (nI r) V9 _) hI.2.2.1 ⟨hI.1.k8 h01 hb, ?_⟩
  rw [cr8 hb, hq8.1]
  refine ⟨fun z => absurd z (nI_pos (by omega)), fun _ => ⟨hI.1.k9 h01 hb, pk_le (x := 10) 10 q (fun z => absurd z (by omega)) (fun _ => ⟨pk_in q 10 (by omega), ?_⟩)⟩⟩
  rw [nI_clamp (by omega), cw9 hb (by omega)]
  rintro _ rfl
  rw [cr8 hb, cw8 hb, au_f (by decide), hq8.1, nI_1]
  rintro _ rfl
  refine t_size hI.1 h01 hb ?_
  rw [au_at]
  obtain ⟨hB1, hC1, hM1, e15, e34⟩ := mid (A' := au (au A 9 b q (nI r)) 8 b 0 (nI (q + 1))) (D := V 11 0 0 0) (y := nI (q + 1)) hI
  refine ⟨hI.1.k15, hI.1.k15, ?_⟩
  rintro _ rfl
  generalize vup (vup (cput N 0 (au (au A 9 b q (nI r)) 8 b 0 (nI (q + 1))) (V 11 0 0 0) V) 34 0 0 0 0 (nI (q + 1))) 15 0 0 0 0 0 = V2 at hB1 hC1 hM1 e15 e34
  refine u_reader1 hB1 hr ⟨fun z => absurd z (by decide), fun _ => u_book1 hB1 hb ⟨fun z => absurd z (by decide), fun _ => ⟨hI.1.k16 h01, ?_⟩⟩⟩
  refine clM (P := fun V9 => wp_X9_placeOf ks 0 (nI r) (nI b) V9 _) hM1 (m_placeOf hB1 h01 hb (by rw [hqq]; exact hq8.1) (by omega) ?_)
  have c9 : plI A b r = -1 := (plI_m1 (by omega)).mpr (by rw [hqq]; exact c)
  rw [c9]
  refine ⟨fun _ => ⟨hI.1.km (by decide) (by decide) h01, pk_in b 24 (by omega), ?_⟩, fun z => absurd rfl z⟩
  rw [nI_clamp (by omega), mr5 (by omega)]
  refine ⟨fun z => absurd z c2, fun _ => ⟨hI.1.km (by decide) (by decide) h01, hI.1.km (by decide) (by decide) h01, ?_⟩⟩
  rw [mr8 (by omega), hq8.1, ix10]
  refine ⟨pk_in (10 * b + q) 240 (by omega), ?_⟩
  rw [nI_clamp (by omega), mw9 (by omega) (by omega)]
  rintro _ rfl
  rw [mr8 (by omega), mw8 (by omega), au_f (by decide), hq8.1, nI_1]
  rintro _ rfl
  rw [mr8 (by omega), au_at]
  exact u_end hB1 hC1 e15 e34 hk hWj rfl
theorem o_cancel {a1 a2 : Int32} (hI : IV B N S A ks V) (hk : B ≤ 60 * k) : sp_cancel (Inv k) ks a1 a2 V := by
  have hn := hI.1.n
  have h01 : (0 : Nat) ≤ 1 := Nat.zero_le _
  have h1 := fun {x : Int32} => (hI.th (x := x)).1
  rcases in_kind (y := a1) (N 3) (by omega) with ha1 | ⟨r, hr, rfl⟩
  · exact ⟨hI.1.k0, hI.1.k34, hI.1.k0, v_reader0 hI.1 ha1 ⟨rfl, hI.1.k15, hI.1.k15, fun _ e => by subst e; exact u_reader0 h1 ha1 ⟨fun _ => u_no hI.th hk rfl (by decide), fun z => absurd rfl z⟩⟩⟩
  rcases in_kind (y := a2) (N 2) (by omega) with ha2 | ⟨b, hb, rfl⟩
  · exact ⟨hI.1.k0, hI.1.k34, hI.1.k0, v_reader1 hI.1 hr (v_book0 hI.1 ha2 ⟨rfl, hI.1.k15, hI.1.k15, fun _ e => by subst e; exact u_reader1 h1 hr ⟨fun z => absurd z (by decide), fun _ => u_book0 h1 ha2 ⟨fun _ => u_no hI.th hk rfl (by decide), fun z => absurd rfl z⟩⟩⟩)⟩
  refine ⟨hI.1.k0, hI.1.k34, hI.1.k0, v_reader1 hI.1 hr (v_book1 hI.1 hb ⟨hI.1.k1 h01, hI.1.k2 h01 (by decide), lget hI.1 h01 (by decide) hb ⟨hI.1.k6 h01 hb, hI.1.k8 h01 hb, ?_⟩⟩)⟩
  have hq8 := WF_q hI.2.1 hn.2.2.2 hb
  refine clC (P := fun V9 => wp_X3_placeOf ks 0 b (nI r) V9 _) hI.2.2.1 (t_placeOf hI.1 h01 hb hq8.1 (by omega) ?_)
  by_cases c : plc A b r < qN A b
  · have ep : plI A b r = nI (plc A b r) := if_pos c
    have em : plI A b r ≠ -1 := fun z => (plI_m1 (by omega)).mp z c
    rw [ep]
    refine t_drop hI.1 h01 hb hq8.1 (by omega) c ⟨hI.1.k15, hI.1.k15, ?_⟩
    rintro _ rfl
    obtain ⟨hB1, hC1, hM1, e15, e34⟩ := mid (A' := dropA A b (plc A b r)) (D := V 11 0 0 0) (y := nI (plc A b r)) hI
    generalize vup (vup (cput N 0 (dropA A b (plc A b r)) (V 11 0 0 0) V) 34 0 0 0 0 (nI (plc A b r))) 15 0 0 0 0 0 = V2 at hB1 hC1 hM1 e15 e34
    refine u_reader1 hB1 hr ⟨fun z => absurd z (by decide), fun _ => u_book1 hB1 hb ⟨fun z => absurd z (by decide), fun _ => ⟨hI.1.k16 h01, ?_⟩⟩⟩
    refine clM (P := fun V9 => wp_X9_placeOf ks 0 (nI r) (nI b) V9 _) hM1 (m_placeOf hB1 h01 hb hq8.1 (by omega) ⟨fun z => absurd z em, fun _ => ?_⟩)
    rw [ep]
    exact m_strike hB1 h01 hb hq8.1 (by omega) c (u_end hB1 hC1 e15 e34 hk (hI.2.1.drop hn.2.2.2 hb c) rfl)
  · have em : plI A b r = -1 := (plI_m1 (by omega)).mpr c
    rw [em, ← hI.2.2.1.eq]
    refine t_drop0 ⟨hI.1.k15, hI.1.k15, ?_⟩
    rintro _ rfl
    have hI2 := (hI.out (x := -1)).th (x := 0)
    refine u_reader1 hI2.1 hr ⟨fun z => absurd z (by decide), fun _ => u_book1 hI2.1 hb ⟨fun z => absurd z (by decide), fun _ => ⟨hI.1.k16 h01, ?_⟩⟩⟩
    refine clM (P := fun V9 => wp_X9_placeOf ks 0 (nI r) (nI b) V9 _) hI2.2.2.2 (m_placeOf hI2.1 h01 hb hq8.1 (by omega) ?_)
    rw [em, ← hI2.2.2.2.eq]
    exact ⟨fun _ => u_alike hI2 hk vup_th ot34 rfl, fun z => absurd rfl z⟩
theorem v_days0 {post : VS → Prop} {xp : Nat → VS → Prop} {a0 m : Int32} (h : a0 < 1 ∨ m < a0) (hp : xp 2 X) : wp_X8_needDays ks a0 m X post xp := v_inX h ⟨fun _ => hp, fun z => absurd rfl z⟩
theorem v_days1 {post : VS → Prop} {xp : Nat → VS → Prop} {a0 m : Int32} (h : ¬ (a0 < 1 ∨ m < a0)) (hp : post X) : wp_X8_needDays ks a0 m X post xp := v_inO h ⟨fun z => absurd z (by decide), fun _ => hp⟩
theorem o_pass {a1 : Int32} (hI : IV B N S A ks V) (hk : B + 60 ≤ 60 * k) (hB9 : B < 2 ^ 30) : sp_pass (Inv k) ks a1 V := by
  have h01 : (0 : Nat) ≤ 1 := Nat.zero_le _
  by_cases c : a1 < 1 ∨ (60 : Int32) < a1
  · exact ⟨hI.1.k0, hI.1.k34, v_days0 c ⟨rfl, hI.1.k15, hI.1.k15, fun _ e => by subst e; exact u_inX c ⟨fun _ => u_no hI.th (by omega) rfl (by decide), fun z => absurd rfl z⟩⟩⟩
  obtain ⟨m, hm, rfl⟩ : ∃ m, m ≤ 60 ∧ a1 = nI m := nI_of2 (M := 60) (n := 60) (by decide) (fun z => c (Or.inl (Int32.lt_iff_toInt_lt.mpr (by
      have := Int32.lt_iff_toInt_lt.mp z
      have e0 : (0 : Int32).toInt = 0 := by decide
      have e1 : (1 : Int32).toInt = 1 := by decide
      omega)))) (Int32.not_lt.mp (fun z => c (Or.inr z)))
  have hWd := WF_days hI.1.sb m (by omega) hI.2.1
  refine ⟨hI.1.k0, hI.1.k34, v_days1 c ⟨hI.1.k0, hI.1.k1 h01, ?_⟩⟩
  refine clC (P := fun V9 => wp_X7_loansOfAll ks 0 V9 _) hI.2.2.1 (t_loans hI.1 h01 (t_days hI.1 hI.1.rn h01 (by omega) hI.2.1 (fun D2 => t_loans hI.1 h01 ⟨hI.1.k15, hI.1.k15, ?_⟩)))
  rintro _ rfl
  obtain ⟨hB1, hC1, hM1, e15, e34⟩ := mid (A' := daysF N S m A) (D := D2) (y := lentS N (daysF N S m A) - lentS N A) hI
  generalize vup (vup (cput N 0 (daysF N S m A) D2 V) 34 0 0 0 0 (lentS N (daysF N S m A) - lentS N A)) 15 0 0 0 0 0 = V2 at hB1 hC1 hM1 e15 e34
  refine u_inO c ⟨fun z => absurd z (by decide), fun _ => ?_⟩
  refine clM (P := fun V9 => wp_X10_pass ks 0 (nI m) V9 _) hM1 (m_days hB1 h01 (by omega) hI.2.1 (fun T2 => ?_))
  refine u_end hB1 hC1 e15 e34 (by omega) (WF_mono (B' := 60 * k) (by omega) hWd) ?_
  rw [show daysF N S m A 16 0 0 = lentS N (daysF N S m A) from hWd.2.2.2.2.2.2.1, show A 16 0 0 = lentS N A from hI.2.1.2.2.2.2.2.2.1]
theorem o_daily (hI : IV B N S A ks V) (hk : B ≤ 60 * k) (hB9 : B < 2 ^ 31) : sp_daily (Inv k) ks V := by
  have h01 : (0 : Nat) ≤ 1 := Nat.zero_le _
  have hd := WF_dN hI.2.1 hB9
  have e7 : V 1 0 0 7 0 = nI (dN A) := (hI.2.2.1 1 0 7 0 (by decide) rfl).trans hd.1
  have hI2 := hI.th (x := 0)
  have m0 : vup V 15 0 0 0 0 0 16 0 0 0 0 = nI (dN A) := (hI2.2.2.2 16 0 0 (by decide) rfl).trans hd.1
  have m2 : vup V 15 0 0 0 0 0 16 0 0 2 0 = lentS N A := (hI2.2.2.2 16 2 0 (by decide) rfl).trans hI.2.1.2.2.2.2.2.2.1
  refine ⟨hI.1.k0, hI.1.k15, hI.1.k0, hI.1.k1 h01, fun c => ⟨hI.1.k15, hI.1.k16 h01, ?_⟩, fun c => ?_⟩
  · rw [e7] at c
    have h0 : dN A = 0 := by
      refine Classical.byContradiction fun z => c (nI_lt (a := 0) (by omega) (by omega))
    rintro _ rfl
    rw [m0, h0]
    exact ⟨fun _ => ⟨⟨FP.dconst0, by decide, by decide⟩, hI2.inv hk⟩, fun z => absurd rfl z⟩
  · rw [e7] at c
    refine clC (P := fun V9 => wp_X7_loansOfAll ks 0 V9 _) hI.2.2.1 (t_loans hI.1 h01 ?_)
    rw [← hI.2.2.1.eq, e7]
    intro d1 hd1
    refine ⟨hI.1.k15, hI.1.k16 h01, ?_⟩
    rintro _ rfl
    rw [m0, m2]
    refine ⟨fun z => ?_, fun _ d2 hd2 => ⟨⟨_, hd1, hd2⟩, hI2.inv hk⟩⟩
    rw [z] at c
    exact absurd c (by decide)
end
