/-! advise -/
def apA (A : AF) (h : Nat) : AF := au (au A 14 0 (zN A) (nI h)) 15 0 0 (nI (zN A + 1))
def laI (N : Nat → Nat) (S : Nat → Nat → Nat) (m : Nat) (A A1 : AF) : Int32 := lentS N (daysF N S m A1) - lentS N A
def adS (N : Nat → Nat) (S : Nat → Nat → Nat) (m : Nat) (A : AF) (h : Nat) (q : Int32 × Int32) : Int32 × Int32 := if laI N S m A (apA A h) ≤ q.2 then q else (nI h, laI N S m A (apA A h))
def adF (N : Nat → Nat) (S : Nat → Nat → Nat) (m : Nat) (A : AF) (n : Nat) : Int32 × Int32 := itn (adS N S m A) n (-1, laI N S m A A)
section
variable {B : Nat} {N : Nat → Nat} {S S' : Nat → Nat → Nat} {ks : List KY} {V V' X : VS} {w t h l b r i p q k n c a m : Nat} {A A' : AF} {D T : Nat → Int32} {x y : Int32} {d : Int64}
theorem WF_ap (hn : N 0 ≤ 8) (hW : WF B N A) (hz : zN A < 8) (hh : h < N 0) : WF B N (apA A h) := by
  have hzz := WF_zN hW hn
  obtain ⟨h1, h2, h3, h4, h5, h6, h7, h8⟩ := hW
  have e14 : ∀ j, apA A h 14 0 j = au A 14 0 (zN A) (nI h) 14 0 j := fun j => au_f (by decide)
  refine ⟨h1, h2, ⟨zN A + 1, by omega, au_at, fun j hj => ?_⟩, h4, h5, h6, h7, h8⟩
  rw [e14]
  by_cases c : j = zN A
  · rw [c, au_at]; exact ⟨h, hh, rfl⟩
  · rw [au_j c]
    have := hzz.2.2 j (by omega)
    exact ⟨_, this.2, this.1⟩
theorem t_append {post : VS → Prop} (hB : Bs N S ks V) (hw : w ≤ 1) (h15 : A 15 0 0 = nI (zN A)) (hz : zN A < 8) (hp : post (cput N w (apA A h) D V)) : wp_X5_append ks w (nI h) (cput N w A D V) post := by
  refine ⟨hB.k12 hw, ?_⟩
  rw [cr15, h15]
  refine ⟨fun z => absurd z (nI_pos (by omega)), fun _ => ⟨hB.k13 hw, pk_le (x := 8) 8 (zN A) (fun z => absurd z (by omega)) (fun _ => ⟨pk_in (zN A) 8 hz, ?_⟩)⟩⟩
  rw [nI_clamp (by omega), cw14 hz]
  rintro _ rfl
  rw [cr15, cw15, au_f (by decide), h15, nI_1]
  rintro _ rfl
  exact hp
theorem t_ahead27 {post : Int32 → VS → Prop} {a1 a2 : Int32} (hI : IV B N S A ks V) (hR : Rn S 1 V) (hB9 : B + m < 2 ^ 31) (hW1 : WF B N A') (hp : ∀ V', IV B N S A ks V' → post (laI N S m A A') V') : wb_X8_loansAhead_27 ks a1 a2 post (nI m) (cput N 1 A' D V) := by
  have h01 : (0 : Nat) ≤ 1 := Nat.zero_le _
  have h11 : (1 : Nat) ≤ 1 := Nat.le_refl _
  exact ⟨hI.1.k0, hI.1.k1 h11, t_days hI.1 hR h11 hB9 hW1 (fun D2 => t_loans hI.1 h11 ⟨hI.1.k1 h01, v_loans0 hI.c1 (hp _ hI.c1)⟩)⟩
theorem t_aheadN {post : Int32 → VS → Prop} (hI : IV B N S A ks V) (hB9 : B + m < 2 ^ 31) (hp : ∀ V', IV B N S A ks V' → post (laI N S m A A) V') : wp_X8_loansAhead ks (nI m) (-1) V post := by
  have h11 : (1 : Nat) ≤ 1 := Nat.le_refl _
  exact ⟨hI.1.k0, hI.1.k1 h11, t_copyFrom hI.1 hI.2.2.1 (fun D1 => ⟨fun _ => t_ahead27 hI.rn (Rn_rn hI.1) hB9 hI.2.1 hp, fun z => absurd rfl z⟩)⟩
theorem t_aheadH {post : Int32 → VS → Prop} (hI : IV B N S A ks V) (hB9 : B + m < 2 ^ 31) (hz : zN A < 8) (hh : h < N 0) (hp : ∀ V', IV B N S A ks V' → post (laI N S m A (apA A h)) V') : wp_X8_loansAhead ks (nI m) (nI h) V post := by
  have hn := hI.1.n
  have h11 : (1 : Nat) ≤ 1 := Nat.le_refl _
  refine ⟨hI.1.k0, hI.1.k1 h11, t_copyFrom hI.1 hI.2.2.1 (fun D1 => ⟨fun z => absurd z (nI_m1 (by omega)), fun _ => ⟨hI.1.k12 h11, t_append hI.rn.1 h11 (WF_zN hI.2.1 hn.1).1 hz ?_⟩⟩)⟩
  exact t_ahead27 hI.rn (Rn_rn hI.1) hB9 (WF_ap hn.1 hI.2.1 hz hh) hp
theorem o_advise {a1 : Int32} (hI : IV B N S A ks V) (hk : B ≤ 60 * k) (hB9 : B < 2 ^ 30) : sp_advise (Inv k) ks a1 V := by
  have hn := hI.1.n
  have h01 : (0 : Nat) ≤ 1 := Nat.zero_le _
  have h11 : (1 : Nat) ≤ 1 := Nat.le_refl _
  have hz := WF_zN hI.2.1 hn.1
  by_cases c : a1 < 1 ∨ (30 : Int32) < a1
  · exact ⟨hI.1.k0, hI.1.k34, v_days0 c (Or.inl ⟨rfl, hI.1.k15, hI.1.k15, fun _ e => by subst e; exact u_inX c ⟨fun _ => u_no hI.th hk rfl (by decide), fun z => absurd rfl z⟩⟩)⟩
  obtain ⟨m, hm, rfl⟩ := days_of (m0 := 30) (by decide) c
  have e15 : V 12 0 0 1 0 = nI (zN A) := (hI.2.2.1 12 0 1 0 (by decide) rfl).trans hz.1
  have hI9 := hI.th (x := 0)
  have e16 : vup V 15 0 0 0 0 0 16 0 0 5 0 = nI (zN A) := (hI9.2.2.2 16 5 0 (by decide) rfl).trans hz.1
  refine ⟨hI.1.k0, hI.1.k34, v_days1 c ⟨hI.1.k0, hI.1.k1 h01, hI.1.k12 h01, hI.1.k12 h01, ?_⟩⟩
  rw [e15]
  refine pk_lt (y := 8) (zN A) 8 (fun cz => ?_) (fun cz => Or.inr ⟨rfl, hI.1.k15, hI.1.k15, fun _ e => by
    subst e
    refine u_inO c ⟨fun z => absurd z (by decide), fun _ => ⟨hI.1.k16 h01, ?_⟩⟩
    rw [e16, show zN A = 8 by omega]
    exact ⟨fun _ => u_no hI9 hk rfl (by decide), fun z => absurd rfl z⟩⟩)
  have fin : ∀ (V6 : VS) (y : Int32), IV B N S A ks V6 → y = (adF N S m A (N 0)).1 → (15, 0, 0) ∈ ks ∧ wp_X10_advise ks (nI m) (vup V6 34 0 0 0 0 y) (fun b V2 => wp_X10_thrown ks V2 (fun t V3 => t = 0 ∧ ((0 : Int32) = 0 → V3 34 0 0 0 0 = b) ∧ (34, 0, 0) ∈ ks ∧ Inv k ks V3)) := by
    intro V6 y hI6 hy
    refine ⟨hI.1.k15, hI.1.k15, ?_⟩
    rintro _ rfl
    have hI8 := (hI6.out (x := y)).th (x := 0)
    have e15 : vup (vup V6 34 0 0 0 0 y) 15 0 0 0 0 0 15 0 0 0 0 = 0 := vup_th
    have e34 : vup (vup V6 34 0 0 0 0 y) 15 0 0 0 0 0 34 0 0 0 0 = y := ot34
    generalize vup (vup V6 34 0 0 0 0 y) 15 0 0 0 0 0 = V8 at hI8 e15 e34
    have e16 : V8 16 0 0 5 0 = nI (zN A) := (hI8.2.2.2 16 5 0 (by decide) rfl).trans hz.1
    refine u_inO c ⟨fun z => absurd z (by decide), fun _ => ⟨hI.1.k16 h01, ?_⟩⟩
    rw [e16]
    refine ⟨fun z => absurd (nI_inj (a := zN A) (b := 8) (by omega) (by decide) z) (by omega), fun _ => ⟨hI.1.k16 h11, m_become hI8.1 hI8.2.2.2 (m_days hI8.1 h11 (by omega) hI.2.1 (fun T2 => ?_))⟩⟩
    have e0 : daysF N S m A 16 0 0 - A 16 0 0 = laI N S m A A := by
      unfold laI
      rw [show daysF N S m A 16 0 0 = lentS N (daysF N S m A) from (WF_days hI.1.sb m (by omega) hI.2.1).2.2.2.2.2.2.1, show A 16 0 0 = lentS N A from hI.2.1.2.2.2.2.2.2.1]
    rw [e0]
    refine ⟨fun n x2 x3 x4 V' => ∃ i, i + n = N 0 ∧ x4 = nI i ∧ x2 = (adF N S m A i).1 ∧ x3 = (adF N S m A i).2 ∧ IV B N S A ks V' ∧ V' 15 0 0 0 0 = 0 ∧ V' 34 0 0 0 0 = y, ⟨N 0, 0, by omega, rfl, rfl, rfl, hI8.m1, (mput_o rfl (by decide)).trans e15, (mput_o rfl (by decide)).trans e34⟩, ?_⟩
    rintro n _ _ _ V9 ⟨i, hi, rfl, rfl, rfl, hI10, f15, f34⟩
    refine ⟨hI.1.k15, ?_⟩
    rw [hI10.1.m1]
    refine pk_le (N 0) i (fun c1 => ?_) (fun c1 => ⟨hI.1.k16 h11, m_become hI10.1 hI10.2.2.2 ⟨hI.1.km (by decide) (by decide) h11, ?_⟩⟩)
    · have : i = N 0 := by omega
      subst this
      exact u_alike hI10 hk f15 f34 hy.symm
    rw [mr15, hz.1]
    refine ⟨pk_in (zN A) 8 cz, ?_⟩
    rw [nI_clamp (by omega), mw14 (by omega)]
    rintro _ rfl
    rw [mr15, mw15, au_f (by decide), hz.1, nI_1]
    rintro _ rfl
    have hWa := WF_ap hn.1 hI.2.1 cz c1
    refine m_days (A := apA A i) hI10.1 h11 (by omega) hWa (fun T3 => ?_)
    have e1 : daysF N S m (apA A i) 16 0 0 - apA A i 16 0 0 = laI N S m A (apA A i) := by
      unfold laI
      rw [show daysF N S m (apA A i) 16 0 0 = lentS N (daysF N S m (apA A i)) from (WF_days hI.1.sb m (by omega) hWa).2.2.2.2.2.2.1, show apA A i 16 0 0 = lentS N A from hI.2.1.2.2.2.2.2.2.1]
    rw [e1]
    have hI11 : IV B N S A ks (mput 1 (daysF N S m (apA A i)) T3 V9) := hI10.m1
    have g15 : mput 1 (daysF N S m (apA A i)) T3 V9 15 0 0 0 0 = 0 := (mput_o rfl (by decide)).trans f15
    have g34 : mput 1 (daysF N S m (apA A i)) T3 V9 34 0 0 0 0 = y := (mput_o rfl (by decide)).trans f34
    have es : adF N S m A (i + 1) = adS N S m A i (adF N S m A i) := rfl
    unfold adS at es
    refine ⟨fun c2 => ?_, fun c2 => ?_⟩
    · rintro _ rfl
      rw [if_neg (Int32.not_le.mpr c2)] at es
      exact ⟨n - 1, by omega, i + 1, by omega, nI_1 i, by rw [es], by rw [es], hI11, g15, g34⟩
    · rintro _ rfl
      rw [if_pos (Int32.not_lt.mp c2)] at es
      exact ⟨n - 1, by omega, i + 1, by omega, nI_1 i, by rw [es], by rw [es], hI11, g15, g34⟩
  refine t_aheadN hI (by omega) (fun V16 hI16 => ?_)
  refine ⟨fun n x2 x3 x4 V' => ∃ i, i + n = N 0 ∧ x4 = nI i ∧ x2 = (adF N S m A i).1 ∧ x3 = (adF N S m A i).2 ∧ IV B N S A ks V', ⟨N 0, 0, by omega, rfl, rfl, rfl, hI16⟩, ?_⟩
  rintro n _ _ _ V9 ⟨i, hi, rfl, rfl, rfl, hI10⟩
  refine ⟨hI.1.k0, hI.1.k1 h01, hI.1.k2 h01 (by decide), ?_⟩
  rw [hI10.1.sz h01 (by decide)]
  refine pk_le (N 0) i (fun c1 => ?_) (fun c1 => t_aheadH hI10 (by omega) cz c1 (fun V4 hI4 => ?_))
  · have : i = N 0 := by omega
    subst this
    exact fin _ _ hI10 rfl
  have es : adF N S m A (i + 1) = adS N S m A i (adF N S m A i) := rfl
  unfold adS at es
  refine ⟨fun c2 => ?_, fun c2 => ?_⟩
  · rintro _ rfl
    rw [if_pos c2] at es
    exact ⟨n - 1, by omega, i + 1, by omega, nI_1 i, by rw [es], by rw [es], hI4⟩
  · rintro _ rfl
    rw [if_neg c2] at es
    exact ⟨n - 1, by omega, i + 1, by omega, nI_1 i, by rw [es], by rw [es], hI4⟩
end
