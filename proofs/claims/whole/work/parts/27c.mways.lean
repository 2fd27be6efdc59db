/-! the model finds its ways -/
def Tn (T : Nat → Int32) (x y : Nat) : Nat := (T (8 * x + y)).toNatClampNeg
def nsum : Nat → (Nat → Int32) → Nat
  | 0, _ => 0
  | n + 1, T => nsum n T + (T n).toNatClampNeg
def GT (N : Nat → Nat) (S : Nat → Nat → Nat) (A : AF) (T : Nat → Int32) : Prop := (∀ p, p < 64 → ∃ e, e ≤ 1000000 ∧ T p = nI e) ∧ (∀ x, x < N 0 → T (8 * x + x) = nI 0) ∧ (∀ x y, x < N 0 → y < N 0 → dt N S A x y ≤ Tn T x y) ∧ T 0 = nI 0
theorem nsum_upd {n p e e' : Nat} {T : Nat → Int32} (hp : p < n) (he : T p = nI e) (h1 : e < 2 ^ 31) (h2 : e' < e) : nsum n (upd T p (nI e')) < nsum n T := by
  have same : ∀ m, m ≤ p → nsum m (upd T p (nI e')) = nsum m T := by
    intro m
    induction m with
    | zero => intro _; rfl
    | succ m ih =>
      intro hm
      show nsum m (upd T p (nI e')) + (upd T p (nI e') m).toNatClampNeg = nsum m T + (T m).toNatClampNeg
      rw [ih (by omega), pk_un (by omega)]
  have key : ∀ m, p < m → nsum m (upd T p (nI e')) < nsum m T := by
    intro m
    induction m with
    | zero => intro h; omega
    | succ m ih =>
      intro hm
      show nsum m (upd T p (nI e')) + (upd T p (nI e') m).toNatClampNeg < nsum m T + (T m).toNatClampNeg
      by_cases c : p = m
      · subst c
        rw [same p (Nat.le_refl _), pk_us, he, nI_clamp (by omega), nI_clamp h1]; omega
      · rw [pk_un (Ne.symm c)]
        have := ih (by omega)
        omega
  exact key n hp
section
variable {B : Nat} {N : Nat → Nat} {S : Nat → Nat → Nat} {ks : List KY} {V X : VS} {t a b c l i n x y : Nat} {A : AF} {T T0 : Nat → Int32}
theorem ix8 : (8 : Int32) * nI a + nI b = nI (8 * a + b) := by rw [show (8 : Int32) = nI 8 from rfl, pk_mul, nI_add]
theorem ix8' : (8 : Int32) * nI a = nI (8 * a) := by rw [show (8 : Int32) = nI 8 from rfl, pk_mul]
theorem ix4 : (4 : Int32) * nI a = nI (4 * a) := by rw [show (4 : Int32) = nI 4 from rfl, pk_mul]
theorem ix41 : (4 : Int32) * nI a + 1 = nI (4 * a + 1) := by rw [ix4, nI_1]
theorem ix42 : (4 : Int32) * nI a + 2 = nI (4 * a + 2) := by rw [ix4, show (2 : Int32) = nI 2 from rfl, nI_add]
theorem ix43 : (4 : Int32) * nI a + 3 = nI (4 * a + 3) := by rw [ix4, show (3 : Int32) = nI 3 from rfl, nI_add]
theorem ix3 : (3 : Int32) * nI a = nI (3 * a) := by rw [show (3 : Int32) = nI 3 from rfl, pk_mul]
theorem ix31 : (3 : Int32) * nI a + 1 = nI (3 * a + 1) := by rw [ix3, nI_1]
theorem ix32 : (3 : Int32) * nI a + 2 = nI (3 * a + 2) := by rw [ix3, show (2 : Int32) = nI 2 from rfl, nI_add]
theorem ix10 : (10 : Int32) * nI a + nI b = nI (10 * a + b) := by rw [show (10 : Int32) = nI 10 from rfl, pk_mul, nI_add]
theorem ix10' : (10 : Int32) * nI a = nI (10 * a) := by rw [show (10 : Int32) = nI 10 from rfl, pk_mul]
theorem t_mmin {post : Int32 → VS → Prop} (hB : Bs N S ks V) (ht : t ≤ 1) (hm : Wm N A) (hi : i < N 1) (hp : post (if useL A i = true then nI (cst S A i) else -1) (mput t A T V)) : wp_X9_minutesOf ks t (nI i) (mput t A T V) post := by
  have hn := hB.n
  have hX : Bs N S ks (mput t A T V) := hB.m
  have hmd := m_mud hm hi
  refine ⟨hB.k16 ht, hB.km (by decide) (by decide) ht, pk_in i 16 (by omega), ?_⟩
  rw [nI_clamp (by omega), mr2 (by omega), hmd.1]
  refine pk_le (y := 12) (mN A i) 12 (fun c => ⟨hB.k15, hB.k17, ?_⟩) (fun c => ?_)
  · rw [ix42]
    refine ⟨pk_in (4 * i + 2) 64 (by omega), ?_⟩
    rw [nI_clamp (by omega), (hX.mln hi).2.2.1, ← hmd.1, m_cst hmd.1 hmd.2]
    rw [if_pos (show useL A i = true from decide_eq_true c)] at hp
    exact hp
  · rw [if_neg (fun z => by have := of_decide_eq_true (show decide (mN A i ≤ 12) = true from z); omega)] at hp
    exact hp
theorem t_relax {post : Int32 → VS → Prop} (hB : Bs N S ks V) (ht : t ≤ 1) (ha : a < N 0) (hb : b < N 0) (hc : c ≤ 100) (hlow : ∀ y, y < N 0 → dt N S A a y ≤ c + dt N S A b y) (hG : GT N S A T0)
    (hp : ∀ r T', ((r = 0 ∧ T' = T0 ∧ ∀ y, y < N 0 → Tn T0 a y ≤ c + Tn T0 b y) ∨ (r = 1 ∧ GT N S A T' ∧ nsum 64 T' < nsum 64 T0)) → post r (mput t A T' V)) : wp_X9_relax ks t (nI a) (nI b) (nI c) (mput t A T0 V) post := by
  have hn := hB.n
  refine ⟨fun n x4 x5 V' => ∃ i T', i + n = N 0 ∧ x5 = nI i ∧ V' = mput t A T' V ∧ ((x4 = 0 ∧ T' = T0 ∧ ∀ y, y < i → Tn T0 a y ≤ c + Tn T0 b y) ∨ (x4 = 1 ∧ GT N S A T' ∧ nsum 64 T' < nsum 64 T0)), ⟨N 0, 0, T0, by omega, rfl, rfl, Or.inl ⟨rfl, rfl, fun y hy => absurd hy (Nat.not_lt_zero _)⟩⟩, ?_⟩
  rintro n x4 _ _ ⟨i, T, hi, rfl, rfl, hor⟩
  have hX : Bs N S ks (mput t A T V) := hB.m
  refine ⟨hB.k16 ht, hB.k15, ?_⟩
  rw [hX.m1]
  refine pk_le (N 0) i (fun c1 => ?_) (fun c1 => ?_)
  · have : i = N 0 := by omega
    subst this
    refine ⟨by rcases hor with z | z; exact Or.inl z.1; exact Or.inr z.1, hp _ T hor⟩
  · have hGT : GT N S A T := by
      rcases hor with z | z
      · rw [z.2.1]; exact hG
      · exact z.2.1
    obtain ⟨e1, h1, q1⟩ := hGT.1 (8 * b + i) (by omega)
    obtain ⟨e2, h2, q2⟩ := hGT.1 (8 * a + i) (by omega)
    have hb9 : Tn T b i = e1 := by unfold Tn; rw [q1]; exact nI_clamp (by omega)
    have ha9 : Tn T a i = e2 := by unfold Tn; rw [q2]; exact nI_clamp (by omega)
    rw [ix8, ix8]
    refine ⟨hB.k21, pk_in (8 * b + i) 64 (by omega), pk_in (8 * a + i) 64 (by omega), ?_⟩
    rw [nI_clamp (by omega), nI_clamp (by omega), mput_t, mput_t, q1, q2, nI_add]
    refine pk_lt (c + e1) e2 (fun c2 => ?_) (fun c2 => ?_)
    · rintro _ rfl _ rfl
      rw [mput_wt]
      have hsum := nsum_upd (n := 64) (p := 8 * a + i) (T := T) (e := e2) (e' := c + e1) (by omega) q2 (by omega) c2
      refine ⟨n - 1, by omega, i + 1, _, by omega, nI_1 i, rfl, Or.inr ⟨rfl, ⟨fun p hp9 => ?_, fun x hx => ?_, fun x y hx hy => ?_, ?_⟩, ?_⟩⟩
      · by_cases e : p = 8 * a + i
        · subst e; exact ⟨c + e1, by omega, pk_us⟩
        · rw [pk_un e]; exact hGT.1 p hp9
      · by_cases e : 8 * x + x = 8 * a + i
        · have hd := hGT.2.1 x hx
          rw [e, q2] at hd
          have := nI_inj (by omega) (by omega) hd
          omega
        · rw [pk_un e]; exact hGT.2.1 x hx
      · have h9 := hGT.2.2.1 x y hx hy
        by_cases e : 8 * x + y = 8 * a + i
        · have ex : x = a := by omega
          have ey : y = i := by omega
          subst ex ey
          unfold Tn
          rw [pk_us, nI_clamp (by omega)]
          have := hlow y hy
          have h8 := hGT.2.2.1 b y hb hy
          omega
        · unfold Tn
          rw [pk_un e]; exact h9
      · by_cases e : 0 = 8 * a + i
        · have hd := hGT.2.2.2
          rw [e, q2] at hd
          have := nI_inj (by omega) (by omega) hd
          omega
        · rw [pk_un e]; exact hGT.2.2.2
      · rcases hor with z | z
        · rw [z.2.1] at hsum ⊢; exact hsum
        · omega
    · rintro _ rfl
      refine ⟨n - 1, by omega, i + 1, T, by omega, nI_1 i, rfl, ?_⟩
      rcases hor with z | z
      · refine Or.inl ⟨z.1, z.2.1, fun y hy => ?_⟩
        by_cases e : y = i
        · subst e
          rw [z.2.1] at ha9 hb9
          omega
        · exact z.2.2 y (by omega)
      · exact Or.inr z
theorem or01 {r s u : Int32} (hr : r = 0 ∨ r = 1) (hs : s = 0 ∨ s = 1) (hu : u = 0 ∨ u = 1) : (r = 0 ∧ s = 0 ∧ u = 0 ∧ r ||| (s ||| u) = 0) ∨ ((r = 1 ∨ s = 1 ∨ u = 1) ∧ r ||| (s ||| u) = 1) := by
  rcases hr with rfl | rfl <;> rcases hs with rfl | rfl <;> rcases hu with rfl | rfl <;> decide
theorem t_find {post : VS → Prop} (hB : Bs N S ks V) (ht : t ≤ 1) (hm : Wm N A) (hp : ∀ T', T' 0 = nI 0 → (∀ x y, x < N 0 → y < N 0 → T' (8 * x + y) = nI (dt N S A x y)) → post (mput t A T' V)) : wp_X9_find ks t (mput t A T V) post := by
  have hn := hB.n
  have hne : ∀ l, l < N 1 → S 20 l ≠ S 21 l := fun l hl => (hB.sln hl).2.2.1
  have hSd : Sy (dt N S A) := Sy_dt hne
  have L48 : ∀ T0, GT N S A T0 → wl_X9_find_48 ks t post 1 (mput t A T0 V) := by
    intro T0 hG0
    refine ⟨fun n x V' => ∃ T1, V' = mput t A T1 V ∧ GT N S A T1 ∧ ((x = 0 ∧ Fx N S A (Tn T1) (N 1)) ∨ (x = 1 ∧ n = nsum 64 T1 + 1)), ⟨nsum 64 T0 + 1, T0, rfl, hG0, Or.inr ⟨rfl, rfl⟩⟩, ?_⟩
    rintro n x _ ⟨T1, rfl, hG1, hor⟩
    constructor
    · intro hx
      rcases hor with z | z
      · refine hp T1 hG1.2.2.2 (fun x y hx hy => ?_)
        have h1 := hG1.2.2.1 x y hx hy
        have h2 : Tn T1 x y ≤ dt N S A x y := by
          refine fx_le (fun x y hx hy => ?_) (fun x hx => ?_) z.2 hx hy
          · obtain ⟨e, he, q⟩ := hG1.1 (8 * x + y) (by omega)
            unfold Tn; rw [q, nI_clamp (by omega)]; exact he
          · unfold Tn; rw [hG1.2.1 x hx]; rfl
        obtain ⟨e, he, q⟩ := hG1.1 (8 * x + y) (by omega)
        have h3 : Tn T1 x y = e := by unfold Tn; rw [q]; exact nI_clamp (by omega)
        rw [q]
        congr 1
        omega
      · rw [z.1] at hx; exact absurd hx (by decide)
    · intro hx
      have hsum : n = nsum 64 T1 + 1 := by
        rcases hor with z | z
        · exact absurd z.1 hx
        · exact z.2
      refine ⟨fun m x1 x2 V' => ∃ l T2, l + m = N 1 ∧ x2 = nI l ∧ V' = mput t A T2 V ∧ ((x1 = 0 ∧ T2 = T1 ∧ Fx N S A (Tn T1) l) ∨ (x1 = 1 ∧ GT N S A T2 ∧ nsum 64 T2 < nsum 64 T1)), ⟨N 1, 0, T1, by omega, rfl, rfl, Or.inl ⟨rfl, rfl, fun l hl => absurd hl (Nat.not_lt_zero _)⟩⟩, ?_⟩
      rintro m x1 _ _ ⟨l, T2, hl, rfl, rfl, hor2⟩
      have hX : ∀ {T9 : Nat → Int32}, Bs N S ks (mput t A T9 V) := hB.m
      refine ⟨hB.k16 ht, hB.k15, ?_⟩
      rw [hX.m2]
      refine pk_le (N 1) l (fun c => ?_) (fun c => ?_)
      · have : l = N 1 := by omega
        subst this
        rcases hor2 with z | z
        · exact ⟨0, by omega, T2, rfl, by rw [z.2.1]; exact hG1, Or.inl ⟨z.1, by rw [z.2.1]; exact z.2.2⟩⟩
        · exact ⟨nsum 64 T2 + 1, by omega, T2, rfl, z.2.1, Or.inr ⟨z.1, rfl⟩⟩
      have hG2 : GT N S A T2 := by
        rcases hor2 with z | z
        · rw [z.2.1]; exact hG1
        · exact z.2.1
      have hs := hB.sln c
      have hml := fun {T9 : Nat → Int32} => (hX (T9 := T9)).mln c
      refine t_mmin hB ht hm c ?_
      by_cases hu : useL A l = true
      · have hcs : cst S A l ≤ 40 := by have := m_mud hm c; unfold cst; omega
        rw [if_pos hu]
        refine ⟨fun z => absurd z (nI_m1 (by omega)), fun _ => ?_⟩
        rw [ix41, ix4]
        refine ⟨hB.k17, pk_in (4 * l) 64 (by omega), pk_in (4 * l + 1) 64 (by omega), ?_⟩
        rw [nI_clamp (by omega), nI_clamp (by omega), hml.1, hml.2.1]
        refine t_mmin hB ht hm c ?_
        rw [if_pos hu]
        have hdl := dt_lane (N := N) (S := S) (A := A) c hu
        refine t_relax hB ht hs.1 hs.2.1 (by omega) (fun y hy => Nat.le_trans (dt_tri hne hs.2.1) (Nat.add_le_add_right hdl.1 _)) hG2 (fun r12 T3 h12 => ?_)
        have hG3 : GT N S A T3 := by
          rcases h12 with z | z
          · rw [z.2.1]; exact hG2
          · exact z.2.1
        refine t_mmin hB ht hm c ?_
        rw [if_pos hu, hml.1, hml.2.1]
        refine t_relax hB ht hs.2.1 hs.1 (by omega) (fun y hy => Nat.le_trans (dt_tri hne hs.1) (Nat.add_le_add_right hdl.2 _)) hG3 (fun r16 T4 h16 => ?_)
        rintro _ rfl _ rfl
        refine ⟨m - 1, by omega, l + 1, T4, by omega, nI_1 l, rfl, ?_⟩
        have hr1 : x1 = 0 ∨ x1 = 1 := by rcases hor2 with z | z; exact Or.inl z.1; exact Or.inr z.1
        have hr2 : r12 = 0 ∨ r12 = 1 := by rcases h12 with z | z; exact Or.inl z.1; exact Or.inr z.1
        have hr3 : r16 = 0 ∨ r16 = 1 := by rcases h16 with z | z; exact Or.inl z.1; exact Or.inr z.1
        have hG4 : GT N S A T4 := by
          rcases h16 with z | z
          · rw [z.2.1]; exact hG3
          · exact z.2.1
        have hs2 : nsum 64 T2 ≤ nsum 64 T1 ∧ (x1 = 1 → nsum 64 T2 < nsum 64 T1) := by
          rcases hor2 with z | z
          · rw [z.2.1]; exact ⟨Nat.le_refl _, fun q => absurd (z.1.symm.trans q) (by decide)⟩
          · exact ⟨Nat.le_of_lt z.2.2, fun _ => z.2.2⟩
        have hs3 : nsum 64 T3 ≤ nsum 64 T2 ∧ (r12 = 1 → nsum 64 T3 < nsum 64 T2) := by
          rcases h12 with z | z
          · rw [z.2.1]; exact ⟨Nat.le_refl _, fun q => absurd (z.1.symm.trans q) (by decide)⟩
          · exact ⟨Nat.le_of_lt z.2.2, fun _ => z.2.2⟩
        have hs4 : nsum 64 T4 ≤ nsum 64 T3 ∧ (r16 = 1 → nsum 64 T4 < nsum 64 T3) := by
          rcases h16 with z | z
          · rw [z.2.1]; exact ⟨Nat.le_refl _, fun q => absurd (z.1.symm.trans q) (by decide)⟩
          · exact ⟨Nat.le_of_lt z.2.2, fun _ => z.2.2⟩
        rcases or01 hr1 hr2 hr3 with ⟨z1, z2, z3, z4⟩ | ⟨z1, z4⟩
        · rw [z4]
          rcases hor2 with y1 | y1
          · rcases h12 with y2 | y2
            · rcases h16 with y3 | y3
              · refine Or.inl ⟨rfl, by rw [y3.2.1, y2.2.1, y1.2.1], fun l' hl' hu' y hy => ?_⟩
                by_cases e : l' = l
                · subst e
                  have q1 := y2.2.2 y hy
                  have q2 := y3.2.2 y hy
                  rw [y1.2.1] at q1
                  rw [y2.2.1, y1.2.1] at q2
                  exact ⟨q1, q2⟩
                · exact y1.2.2 l' (by omega) hu' y hy
              · exact absurd (z3.symm.trans y3.1) (by decide)
            · exact absurd (z2.symm.trans y2.1) (by decide)
          · exact absurd (z1.symm.trans y1.1) (by decide)
        · rw [z4]
          refine Or.inr ⟨rfl, hG4, ?_⟩
          rcases z1 with q | q | q
          · have := hs2.2 q; omega
          · have := hs3.2 q; omega
          · have := hs4.2 q; omega
      · rw [if_neg hu]
        refine ⟨fun _ => ?_, fun z => absurd rfl z⟩
        rintro _ rfl
        refine ⟨m - 1, by omega, l + 1, T2, by omega, nI_1 l, rfl, ?_⟩
        rcases hor2 with z | z
        · refine Or.inl ⟨z.1, z.2.1, fun l' hl' hu' y hy => ?_⟩
          by_cases e : l' = l
          · subst e; exact absurd hu' hu
          · exact z.2.2 l' (by omega) hu' y hy
        · exact Or.inr z
  refine ⟨fun n x V' => ∃ i T', i + n = 64 ∧ x = nI i ∧ V' = mput t A T' V ∧ ∀ p, p < i → T' p = if p / 8 = p % 8 then nI 0 else nI 1000000, ⟨64, 0, T, rfl, rfl, rfl, fun j hj => absurd hj (Nat.not_lt_zero _)⟩, ?_⟩
  rintro n _ _ ⟨i, T0, hi, rfl, rfl, h0⟩
  refine ⟨hB.k16 ht, hB.k15, hB.k21, ?_⟩
  refine pk_le (x := 64) 64 i (fun c => ?_) (fun c => ?_)
  · refine L48 T0 ⟨fun p hp9 => ?_, fun x hx => ?_, fun x y hx hy => ?_, ?_⟩
    · rw [h0 p (by omega)]
      split
      · exact ⟨0, by omega, rfl⟩
      · exact ⟨1000000, Nat.le_refl _, rfl⟩
    · rw [h0 _ (by omega), if_pos (by omega)]
    · unfold Tn
      rw [h0 _ (by omega)]
      by_cases e : x = y
      · subst e; rw [hSd.2.1 x]; exact Nat.zero_le _
      · rw [if_neg (by omega), nI_clamp (by decide)]; exact hSd.2.2 x y
    · rw [h0 0 (by omega), if_pos (by decide)]
  · have hdv : nI i / 8 = nI (i / 8) := pk_div (d := 8) (by omega) (by decide) (by decide)
    have hrm : nI i - nI i / 8 * 8 = nI (i % 8) := pk_rem (d := 8) (by omega) (by decide) (by decide)
    rw [hrm, hdv]
    refine pk_eq (i / 8) (i % 8) (fun c2 => ⟨pk_in i 64 c, ?_⟩) (fun c2 => ⟨pk_in i 64 c, ?_⟩)
    · rintro _ rfl _ rfl
      rw [nI_clamp (by omega), mput_wt]
      refine ⟨n - 1, by omega, i + 1, _, by omega, nI_1 i, rfl, fun p hp9 => ?_⟩
      by_cases e : p = i
      · rw [e, pk_us, if_pos c2]; rfl
      · rw [pk_un e]; exact h0 p (by omega)
    · rintro _ rfl _ rfl
      rw [nI_clamp (by omega), mput_wt]
      refine ⟨n - 1, by omega, i + 1, _, by omega, nI_1 i, rfl, fun p hp9 => ?_⟩
      by_cases e : p = i
      · rw [e, pk_us, if_neg c2]; rfl
      · rw [pk_un e]; exact h0 p (by omega)
end
