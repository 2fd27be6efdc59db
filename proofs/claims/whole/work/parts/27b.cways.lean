/-! the class measures its ways -/
theorem v_upd_same {D : Nat → Int32} {p : Nat} {x : Int32} (h : D p = x) : upd D p x = D := by
  funext j
  unfold upd
  split
  · next c => rw [c, h]
  · rfl
def pl (x y : Nat) : Nat := if x ≤ y then y * 8 + x else x * 8 + y
def Rp (n : Nat) (D : Nat → Int32) (E : Nat → Nat → Nat) : Prop := ∀ x y, x < n → y < n → x ≠ y → D (pl x y) = nI (E x y)
def epp (k f t : Nat) (E : Nat → Nat → Nat) : Nat → Nat → Nat := fun x y => if (max x y < f ∨ (max x y = f ∧ min x y < t)) then eph k E x y else E x y
section
variable {B : Nat} {N : Nat → Nat} {S : Nat → Nat → Nat} {ks : List KY} {V X : VS} {w h k l f t x y i n : Nat} {A : AF} {D : Nat → Int32} {E : Nat → Nat → Nat}
theorem pl_lt (hx : x < 8) (hy : y < 8) : pl x y < 64 := by unfold pl; split <;> omega
theorem pl_inj {x' y' : Nat} (hx : x < 8) (hy : y < 8) (hx' : x' < 8) (hy' : y' < 8) (h : pl x y = pl x' y') : (x = x' ∧ y = y') ∨ (x = y' ∧ y = x') := by
  unfold pl at h
  split at h <;> split at h <;> omega
theorem t_time {post : Int32 → VS → Prop} (hX : Bs N S ks X) (hw : w ≤ 1) (hx : x < 8) (hy : y < 8) (hp : post (if x = y then 0 else X 11 w 0 0 (pl x y)) X) : wp_X6_time ks w (nI x) (nI y) X post := by
  have key : ∀ (p : Nat) (a b : Int32), p < 64 → post (X 11 w 0 0 p) X → wb_X6_time_27 ks w a b post (nI p) X := by
    intro p a b hp9 hp
    refine ⟨fun z => absurd z (nI_pos (by omega)), fun _ => ⟨hX.k10 hw, hX.k11 hw, ?_⟩⟩
    refine pk_le (x := 64) 64 p (fun z => absurd z (by omega)) (fun _ => ⟨pk_in p 64 hp9, ?_⟩)
    rw [nI_clamp (by omega)]; exact hp
  refine pk_eq x y (fun c => ?_) (fun c => ?_)
  · rw [if_pos c] at hp; exact hp
  · rw [if_neg c] at hp
    refine pk_le x y (fun c2 => ?_) (fun c2 => ?_)
    · have e : nI y * 8 + nI x = nI (pl x y) := by
        unfold pl
        rw [if_pos c2, show (8 : Int32) = nI 8 from rfl, pk_mul, nI_add]
      rw [e]
      exact key _ _ _ (pl_lt hx hy) hp
    · have e : nI x * 8 + nI y = nI (pl x y) := by
        unfold pl
        rw [if_neg (by omega), show (8 : Int32) = nI 8 from rfl, pk_mul, nI_add]
      rw [e]
      exact key _ _ _ (pl_lt hx hy) hp
theorem t_timeE {post : Int32 → VS → Prop} (hB : Bs N S ks V) (hw : w ≤ 1) (hx : x < n) (hy : y < n) (hn : n ≤ 8) (h0 : E x x = 0) (hD : Rp n D E) (hp : post (nI (E x y)) (cput N w A D V)) : wp_X6_time ks w (nI x) (nI y) (cput N w A D V) post := by
  refine t_time hB.c hw (by omega) (by omega) ?_
  rw [cput_t]
  by_cases c : x = y
  · rw [if_pos c]; subst c; rw [h0] at hp; exact hp
  · rw [if_neg c, hD x y hx hy c]; exact hp
theorem t_short {post : VS → Prop} {e c : Nat} (hB : Bs N S ks V) (hw : w ≤ 1) (hx : x < 8) (hy : y < 8) (he : e ≤ 1000000) (hc : c ≤ 2000000) (hD : D (pl x y) = nI e) (hp : post (cput N w A (upd D (pl x y) (nI (min e c))) V)) : wp_X6_shorten ks w (nI x) (nI y) (nI c) (cput N w A D V) post := by
  have key : ∀ (a b d : Int32), wb_X6_shorten_20 ks w a b d post (nI c) (nI (pl x y)) (cput N w A D V) := by
    intro a b d
    have hp9 := pl_lt hx hy
    refine ⟨fun z => absurd z (nI_pos (by omega)), fun _ => ⟨hB.k10 hw, hB.k11 hw, ?_⟩⟩
    refine pk_le (x := 64) 64 (pl x y) (fun z => absurd z (by omega)) (fun _ => ⟨pk_in (pl x y) 64 hp9, ?_⟩)
    rw [nI_clamp (by omega), cput_t, hD]
    refine pk_le e c (fun c2 => ?_) (fun c2 => ?_)
    · rw [Nat.min_eq_left c2, v_upd_same hD] at hp; exact hp
    · rintro _ rfl
      rw [cput_wt]
      rw [Nat.min_eq_right (by omega)] at hp; exact hp
  refine pk_le x y (fun c2 => ?_) (fun c2 => ?_)
  · have e : nI y * 8 + nI x = nI (pl x y) := by
      unfold pl
      rw [if_pos c2, show (8 : Int32) = nI 8 from rfl, pk_mul, nI_add]
    rw [e]
    exact key _ _ _
  · have e : nI x * 8 + nI y = nI (pl x y) := by
      unfold pl
      rw [if_neg (by omega), show (8 : Int32) = nI 8 from rfl, pk_mul, nI_add]
    rw [e]
    exact key _ _ _
theorem Rp_upd {e : Nat} (hn : n ≤ 8) (hx : x < n) (hy : y < n) (hD : Rp n D E) {E' : Nat → Nat → Nat} (h1 : E' x y = e) (h2 : E' y x = e) (h3 : ∀ a b, ¬ ((a = x ∧ b = y) ∨ (a = y ∧ b = x)) → E' a b = E a b) : Rp n (upd D (pl x y) (nI e)) E' := by
  intro a b ha hb hab
  by_cases c : (a = x ∧ b = y) ∨ (a = y ∧ b = x)
  · have ep : pl a b = pl x y := by
      rcases c with ⟨rfl, rfl⟩ | ⟨rfl, rfl⟩
      · rfl
      · unfold pl; split <;> split <;> omega
    rw [ep, pk_us]
    rcases c with ⟨rfl, rfl⟩ | ⟨rfl, rfl⟩
    · rw [h1]
    · rw [h2]
  · rw [pk_un (fun z => c (pl_inj (by omega) (by omega) (by omega) (by omega) z)), h3 a b c]
    exact hD a b ha hb hab
theorem epp_x {n : Nat} (hE : Sy E) : epp k f t E x k = E x k := by
  unfold epp eph
  rw [hE.2.1 k, Nat.add_zero, Nat.min_self]
  split <;> rfl
theorem epp_k (hE : Sy E) : epp k f t E k x = E k x := by
  unfold epp eph
  rw [hE.2.1 k, Nat.zero_add, Nat.min_self]
  split <;> rfl
theorem Sy_epp (hE : Sy E) : Sy (epp k f t E) := by
  have h2 := Sy_ph (k := k) hE
  refine ⟨fun x y => ?_, fun x => ?_, fun x y => ?_⟩
  · unfold epp
    rw [Nat.max_comm x y, Nat.min_comm x y, h2.1 x y, hE.1 x y]
  · unfold epp
    rw [h2.2.1 x, hE.2.1 x]
    split <;> rfl
  · unfold epp
    split
    · exact h2.2.2 x y
    · exact hE.2.2 x y
theorem eph_far (hE : Sy E) (hf : 1000000 ≤ E f k) (h : x = f ∨ y = f) : eph k E x y = E x y := by
  unfold eph
  refine Nat.min_eq_left ?_
  have h9 := hE.2.2 x y
  rcases h with rfl | rfl
  · exact Nat.le_trans h9 (Nat.le_trans hf (Nat.le_add_right _ _))
  · rw [hE.1 k y]; exact Nat.le_trans h9 (Nat.le_trans hf (Nat.le_add_left _ _))
theorem epp_far (hE : Sy E) (hf : 1000000 ≤ E f k) : epp k (f + 1) 0 E x y = epp k f t E x y := by
  unfold epp
  by_cases c : max x y < f
  · rw [if_pos (Or.inl (by omega)), if_pos (Or.inl c)]
  · by_cases c2 : max x y = f
    · have h3 : x = f ∨ y = f := by omega
      rw [eph_far hE hf h3]
      split <;> split <;> rfl
    · rw [if_neg (by omega), if_neg (by omega)]
theorem epp_row (hxy : x ≠ y) : epp k (f + 1) 0 E x y = epp k f f E x y := by
  unfold epp
  by_cases c : max x y < f + 1
  · rw [if_pos (Or.inl c), if_pos (by omega)]
  · rw [if_neg (by omega), if_neg (by omega)]
theorem epp_0 : epp k 0 0 E x y = E x y := by
  unfold epp
  rw [if_neg (by omega)]
theorem epp_n (hx : x < n) (hy : y < n) : epp k n 0 E x y = eph k E x y := by
  unfold epp
  rw [if_pos (Or.inl (by omega))]
theorem epp_ft (ht : t < f) : epp k f t E f t = E f t := by
  unfold epp
  rw [if_neg (by omega)]
theorem epp_ft1 (ht : t < f) : epp k f (t + 1) E f t = eph k E f t ∧ epp k f (t + 1) E t f = eph k E t f := by
  unfold epp
  rw [if_pos (by omega), if_pos (by omega)]
  exact ⟨rfl, rfl⟩
theorem epp_o (ht : t < f) (h : ¬ ((x = f ∧ y = t) ∨ (x = t ∧ y = f))) (hxy : x ≠ y) : epp k f (t + 1) E x y = epp k f t E x y := by
  unfold epp
  by_cases c : max x y < f ∨ (max x y = f ∧ min x y < t)
  · rw [if_pos c, if_pos (by omega)]
  · rw [if_neg c, if_neg (by omega)]
theorem Rp_congr {E' : Nat → Nat → Nat} (h : Rp n D E) (he : ∀ x y, x < n → y < n → x ≠ y → E' x y = E x y) : Rp n D E' := fun x y hx hy hxy => by rw [he x y hx hy hxy]; exact h x y hx hy hxy
theorem Rp_set {e : Nat} (hn : n ≤ 8) (hx : x < n) (hy : y < n) (hD : Rp n D E) {E' : Nat → Nat → Nat} (h1 : E' x y = e) (h2 : E' y x = e) (h3 : ∀ a b, a ≠ b → ¬ ((a = x ∧ b = y) ∨ (a = y ∧ b = x)) → E' a b = E a b) : Rp n (upd D (pl x y) (nI e)) E' := by
  intro a b ha hb hab
  by_cases c : (a = x ∧ b = y) ∨ (a = y ∧ b = x)
  · have ep : pl a b = pl x y := by
      rcases c with ⟨rfl, rfl⟩ | ⟨rfl, rfl⟩
      · rfl
      · unfold pl; split <;> split <;> omega
    rw [ep, pk_us]
    rcases c with ⟨rfl, rfl⟩ | ⟨rfl, rfl⟩
    · rw [h1]
    · rw [h2]
  · rw [pk_un (fun z => c (pl_inj (by omega) (by omega) (by omega) (by omega) z)), h3 a b hab c]
    exact hD a b ha hb hab
theorem m_mud (hm : Wm N A) (hi : i < N 1) : A 2 i 0 = nI (mN A i) ∧ mN A i ≤ 20 := by
  obtain ⟨m, hm2, e⟩ := hm i hi
  have : mN A i = m := by unfold mN; rw [e]; exact nI_clamp (by omega)
  rw [this]
  exact ⟨e, hm2⟩
theorem m_cst (hi : A 2 i 0 = nI (mN A i)) (hm : mN A i ≤ 20) : nI (S 22 i) + A 2 i 0 / 2 = nI (cst S A i) := by
  rw [hi, show (2 : Int32) = nI 2 from rfl, pk_div (by omega) (by decide) (by decide), nI_add]
  rfl
theorem t_meas {post : VS → Prop} (hB : Bs N S ks V) (hw : w ≤ 1) (hm : Wm N A) (hp : ∀ D', Rp (N 0) D' (dt N S A) → post (cput N w A D' V)) : wp_X6_measure ks w w (nI (N 0)) (cput N w A D V) post := by
  have hn := hB.n
  have hne : ∀ l, l < N 1 → S 20 l ≠ S 21 l := fun l hl => (hB.sln hl).2.2.1
  have hSl : Sy (dl N S A) := Sy_dl hne
  have L80 : ∀ D0, Rp (N 0) D0 (dl N S A) → wl_X6_measure_80 ks w w (nI (N 0)) post (nI (N 0)) 0 (cput N w A D0 V) := by
    intro D0 hD0
    refine ⟨fun n x V' => ∃ k D', k + n = N 0 ∧ x = nI k ∧ V' = cput N w A D' V ∧ Rp (N 0) D' (itn eph k (dl N S A)), ⟨N 0, 0, D0, by omega, rfl, rfl, hD0⟩, ?_⟩
    rintro n _ _ ⟨k, D1, hk, rfl, rfl, hD1⟩
    refine pk_le (N 0) k (fun c => ?_) (fun c => ?_)
    · have : k = N 0 := by omega
      subst this
      exact hp D1 hD1
    have hE : Sy (itn eph k (dl N S A)) := Sy_phs hSl k
    have hnext : ∀ D', Rp (N 0) D' (eph k (itn eph k (dl N S A))) → ∀ y : Int32, y = nI k + 1 → ∃ n', n' < n ∧ ∃ k' D9, k' + n' = N 0 ∧ y = nI k' ∧ cput N w A D' V = cput N w A D9 V ∧ Rp (N 0) D9 (itn eph k' (dl N S A)) := by
      rintro D' hD' _ rfl
      exact ⟨n - 1, by omega, k + 1, D', by omega, nI_1 k, rfl, hD'⟩
    generalize itn eph k (dl N S A) = E at hD1 hE hnext
    refine ⟨fun m x V' => ∃ f D', f + m = N 0 ∧ x = nI f ∧ V' = cput N w A D' V ∧ Rp (N 0) D' (epp k f 0 E), ⟨N 0, 0, D1, by omega, rfl, rfl, Rp_congr hD1 (fun x y _ _ _ => epp_0)⟩, ?_⟩
    rintro m _ _ ⟨f, D2, hf, rfl, rfl, hD2⟩
    refine pk_le (N 0) f (fun c2 => ?_) (fun c2 => ⟨hB.k10 hw, t_timeE hB hw c2 c hn.1 ((Sy_epp hE).2.1 f) hD2 ?_⟩)
    · have : f = N 0 := by omega
      subst this
      exact hnext D2 (Rp_congr hD2 (fun x y hx hy _ => (epp_n hx hy).symm))
    rw [epp_x (n := 0) hE]
    have hnf : ∀ D', Rp (N 0) D' (epp k (f + 1) 0 E) → ∀ y : Int32, y = nI f + 1 → ∃ n', n' < m ∧ ∃ f' D9, f' + n' = N 0 ∧ y = nI f' ∧ cput N w A D' V = cput N w A D9 V ∧ Rp (N 0) D9 (epp k f' 0 E) := by
      rintro D' hD' _ rfl
      exact ⟨m - 1, by omega, f + 1, D', by omega, nI_1 f, rfl, hD'⟩
    refine ⟨fun m2 x V' => ∃ t D', t + m2 = f ∧ x = nI t ∧ V' = cput N w A D' V ∧ Rp (N 0) D' (epp k f t E), ⟨f, 0, D2, by omega, rfl, rfl, hD2⟩, ?_⟩
    rintro m2 _ _ ⟨t, D3, ht, rfl, rfl, hD3⟩
    have hfk := hE.2.2 f k
    refine pk_le (x := 1000000) 1000000 (E f k) (fun c3 => hnf D3 (Rp_congr hD3 (fun x y _ _ _ => epp_far hE c3))) (fun c3 => ?_)
    refine pk_le f t (fun c4 => ?_) (fun c4 => ?_)
    · have : t = f := by omega
      subst this
      exact hnf D3 (Rp_congr hD3 (fun x y _ _ hxy => epp_row hxy))
    refine ⟨hB.k10 hw, t_timeE hB hw c (by omega : t < N 0) hn.1 ((Sy_epp hE).2.1 k) hD3 ?_⟩
    have hkt := hE.2.2 k t
    have hft := hE.2.2 f t
    rw [epp_k hE, nI_add]
    refine t_short (e := E f t) hB hw (by omega) (by omega) hft (by omega) (by rw [hD3 f t (by omega) (by omega) (by omega), epp_ft c4]) ?_
    rintro _ rfl
    refine ⟨m2 - 1, by omega, t + 1, _, by omega, nI_1 t, rfl, ?_⟩
    refine Rp_set hn.1 (by omega) (by omega) hD3 (epp_ft1 c4).1 ?_ (fun a b hab hh => epp_o c4 hh hab)
    rw [(epp_ft1 c4).2, (Sy_ph hE).1 t f]
    rfl
  have L27 : ∀ D0, Rp 8 D0 e0 → wl_X6_measure_27 ks w w (nI (N 0)) post (nI (N 0)) 0 (cput N w A D0 V) := by
    intro D0 hD0
    refine ⟨fun n x V' => ∃ l D', l + n = N 1 ∧ x = nI l ∧ V' = cput N w A D' V ∧ Rp 8 D' (itn (elan S A) l e0), ⟨N 1, 0, D0, by omega, rfl, rfl, hD0⟩, ?_⟩
    rintro n _ _ ⟨l, D1, hl, rfl, rfl, hD1⟩
    have hX : Bs N S ks (cput N w A D1 V) := hB.c
    refine ⟨hB.k2 hw (by decide), ?_⟩
    have hsz := hX.sz hw (K := 1) (by decide)
    rw [hsz]
    refine pk_le (N 1) l (fun c => ?_) (fun c => ?_)
    · have : l = N 1 := by omega
      subst this
      exact L80 D1 (fun x y hx hy hxy => hD1 x y (by omega) (by omega) hxy)
    have hnext : ∀ D', Rp 8 D' (elan S A l (itn (elan S A) l e0)) → ∀ y : Int32, y = nI l + 1 → ∃ n', n' < n ∧ ∃ l' D9, l' + n' = N 1 ∧ y = nI l' ∧ cput N w A D' V = cput N w A D9 V ∧ Rp 8 D9 (itn (elan S A) l' e0) := by
      rintro D' hD' _ rfl
      exact ⟨n - 1, by omega, l + 1, D', by omega, nI_1 l, rfl, hD'⟩
    have hE : Sy (itn (elan S A) l e0) := by
      have key : ∀ i, i ≤ N 1 → Sy (itn (elan S A) i e0) := by
        intro i
        induction i with
        | zero => intro _; exact Sy_e0
        | succ i ih => intro hi; exact Sy_lan (ih (by omega)) (hne i (by omega))
      exact key l (by omega)
    have hln := hX.ln hw c
    have hs := hB.sln c
    have hmd := m_mud hm c
    generalize itn (elan S A) l e0 = E at hD1 hE hnext
    rw [← hsz]
    refine lget hX hw (by decide) c ⟨hB.k5 hw c, hB.k5 hw c, ?_⟩
    rw [cr2 c, hmd.1]
    refine pk_lt (x := 12) 12 (mN A l) (fun c2 => ⟨fun _ => hnext D1 (Rp_congr hD1 (fun x y _ _ _ => ?_)), fun z => absurd rfl z⟩) (fun c2 => ⟨fun z => absurd z (by decide), fun _ => ⟨hB.k5 hw c, hB.k10 hw, ?_⟩⟩)
    · unfold elan useL
      rw [if_neg (fun z => by have := of_decide_eq_true z.1; omega)]
    have hu : useL A l = true := decide_eq_true c2
    rw [hln.1, hln.2.1, hln.2.2.1, cr2 c, m_cst hmd.1 hmd.2]
    have hcs : cst S A l ≤ 40 := by unfold cst; omega
    have hab := hE.2.2 (S 20 l) (S 21 l)
    refine t_short (e := E (S 20 l) (S 21 l)) hB hw (by omega) (by omega) hab (by omega) (hD1 _ _ (by omega) (by omega) hs.2.2.1) ?_
    refine hnext _ (Rp_set (by decide) (by omega) (by omega) hD1 ?_ ?_ (fun a b hab hh => ?_))
    · unfold elan; rw [if_pos ⟨hu, Or.inl ⟨rfl, rfl⟩⟩]
    · unfold elan; rw [if_pos ⟨hu, Or.inr ⟨rfl, rfl⟩⟩, hE.1 (S 21 l) (S 20 l)]
    · unfold elan; rw [if_neg (fun z => hh z.2)]
  refine ⟨fun n x V' => ∃ i D', i + n = 64 ∧ x = nI i ∧ V' = cput N w A D' V ∧ ∀ j, j < i → D' j = 1000000, ⟨64, 0, D, rfl, rfl, rfl, fun j hj => absurd hj (Nat.not_lt_zero _)⟩, ?_⟩
  rintro n _ _ ⟨i, D0, hi, rfl, rfl, h0⟩
  refine ⟨hB.k10 hw, hB.k11 hw, ?_⟩
  refine pk_le (x := 64) 64 i (fun c => ?_) (fun c => ⟨pk_in i 64 c, ?_⟩)
  · refine L27 D0 (fun x y hx hy hxy => ?_)
    rw [h0 _ (by have := pl_lt hx hy; omega)]
    unfold e0
    rw [if_neg hxy]
    rfl
  · rintro _ rfl _ rfl
    rw [nI_clamp (by omega), cput_wt]
    refine ⟨n - 1, by omega, i + 1, _, by omega, nI_1 i, rfl, fun j hj => ?_⟩
    by_cases e : j = i
    · rw [e, pk_us]
    · rw [pk_un e]; exact h0 j (by omega)
end
