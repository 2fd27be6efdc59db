/-! setRound -/
def dg (n e : Nat) : Nat := n / 10 ^ e % 10
def Od (nh n m : Nat) : Prop := ∀ e, e < m → 1 ≤ dg n e ∧ dg n e ≤ nh
def Ln (n m : Nat) : Prop := m ≤ 8 ∧ n / 10 ^ m = 0 ∧ ∀ e, e < m → n / 10 ^ e ≠ 0
def pw : Nat → Nat
  | 0 => 0
  | e + 1 => 10 ^ e
def RA (A : AF) (n m s : Nat) : AF := fun f i j => if f = 14 ∧ i = 0 ∧ j < s then nI (dg n (m - 1 - j) - 1) else if f = 15 ∧ i = 0 ∧ j = 0 then nI s else A f i j
def RB (A : AF) (n m e : Nat) : AF := fun f i j => if f = 14 ∧ i = 0 ∧ m - e ≤ j ∧ j < m then nI (dg n (m - 1 - j) - 1) else if f = 15 ∧ i = 0 ∧ j = 0 then nI m else A f i j
section
variable {B : Nat} {N : Nat → Nat} {S S' : Nat → Nat → Nat} {ks : List KY} {V V' X : VS} {w t h l b r i p q k n c a m e s nh : Nat} {A A' : AF} {D T : Nat → Int32} {x y : Int32} {d : Int64}
theorem Ln_ex (hn : n < 100000000) : ∃ m, Ln n m := by
  obtain ⟨m, h1, h2⟩ := pk_least (fun e => n / 10 ^ e = 0) ⟨8, Nat.div_eq_of_lt hn⟩
  refine ⟨m, Nat.not_lt.mp (fun z => h2 8 z (Nat.div_eq_of_lt hn)), h1, fun e he => h2 e he⟩
theorem dv_s : n / 10 ^ e / 10 = n / 10 ^ (e + 1) := by rw [Nat.div_div_eq_div_mul, Nat.pow_succ]
theorem dv_le : n / 10 ^ e ≤ n := Nat.div_le_self _ _
theorem Ln_ge (hL : Ln n m) (h : n / 10 ^ e = 0) : m ≤ e := Nat.not_lt.mp (fun z => hL.2.2 e z h)
theorem Ln_lt (hL : Ln n m) (h : n / 10 ^ e ≠ 0) : e < m := by
  refine Nat.not_le.mp (fun z => h ?_)
  have h1 : n / 10 ^ e ≤ n / 10 ^ m := Nat.div_le_div_left (Nat.pow_le_pow_right (by decide) z) (Nat.pow_pos (by decide))
  rw [hL.2.1] at h1
  exact Nat.le_zero.mp h1
theorem dg_lt : dg n e < 10 := Nat.mod_lt _ (by decide)
theorem rem10 {v : Nat} (hv : v < 2 ^ 31) : nI v - nI v / 10 * 10 = nI (v % 10) := pk_rem (d := 10) hv (by decide) (by decide)
theorem div10 {v : Nat} (hv : v < 2 ^ 31) : nI v / 10 = nI (v / 10) := pk_div (d := 10) hv (by decide) (by decide)
theorem t_stands {post : Int32 → VS → Prop} (hn : n < 100000000) (hL : Ln n m) (hnh : nh ≤ 8) (h1 : Od nh n m → post 1 X) (h0 : ¬ Od nh n m → post 0 X) : wp_X8_standsForHalts ks (nI n) (nI nh) X post := by
  refine ⟨fun k x2 V' => ∃ e, e + k = m ∧ x2 = nI (n / 10 ^ e) ∧ Od nh n e ∧ V' = X, ⟨m, 0, by omega, by rw [Nat.pow_zero, Nat.div_one], fun e he => absurd he (Nat.not_lt_zero _), rfl⟩, ?_⟩
  rintro k _ _ ⟨e, he, rfl, hok, rfl⟩
  have hle := dv_le (n := n) (e := e)
  refine pk_le (n / 10 ^ e) 0 (fun c => ?_) (fun c => ?_)
  · have := Ln_ge hL (Nat.le_zero.mp c)
    obtain rfl : e = m := by omega
    exact h1 hok
  have hem := Ln_lt hL (Nat.pos_iff_ne_zero.mp c)
  rw [rem10 (by omega), div10 (by omega)]
  have hdg := dg_lt (n := n) (e := e)
  by_cases c2 : 1 ≤ dg n e ∧ dg n e ≤ nh
  · refine v_inO (fun z => ?_) ⟨fun z => absurd z (by decide), fun _ => ?_⟩
    · rcases z with z | z
      · have := (nI_ltI (a := dg n e) (b := 1) (by omega) (by decide)).mp z
        omega
      · have := (nI_ltI (a := nh) (b := dg n e) (by omega) (by omega)).mp z
        omega
    · rintro _ rfl
      refine ⟨k - 1, by omega, e + 1, by omega, by rw [dv_s], fun e' he' => ?_, rfl⟩
      by_cases q : e' = e
      · rw [q]; exact c2
      · exact hok e' (by omega)
  · refine v_inX ?_ ⟨fun _ => h0 (fun z => c2 (z e hem)), fun z => absurd rfl z⟩
    by_cases c3 : 1 ≤ dg n e
    · exact Or.inr (nI_lt (a := nh) (b := dg n e) (by omega) (by omega))
    · exact Or.inl (nI_lt (a := dg n e) (b := 1) (by omega) (by decide))
theorem RA_0 : RA A n m 0 = au A 15 0 0 0 := by
  funext f i j
  unfold RA au
  rw [if_neg (fun z => Nat.not_lt_zero _ z.2.2)]
  rfl
theorem RA_15 : RA A n m s 15 0 0 = nI s := by
  unfold RA
  rw [if_neg (by omega), if_pos ⟨rfl, rfl, rfl⟩]
theorem RA_s (hs : s < m) (hn8 : m ≤ 8) {v : Nat} (hv : v = dg n (m - 1 - s) - 1) : apA (RA A n m s) v = RA A n m (s + 1) := by
  have ez : zN (RA A n m s) = s := by unfold zN; rw [RA_15]; exact nI_clamp (by omega)
  unfold apA
  rw [ez]
  funext f i j
  unfold au RA
  by_cases c : f = 15 ∧ i = 0 ∧ j = 0
  · rw [if_pos c, if_neg (by omega), if_pos c]
  · rw [if_neg c]
    by_cases c2 : f = 14 ∧ i = 0 ∧ j = s
    · rw [if_pos c2, if_pos ⟨c2.1, c2.2.1, by omega⟩, hv, c2.2.2]
    · rw [if_neg c2]
      by_cases c3 : f = 14 ∧ i = 0 ∧ j < s
      · rw [if_pos c3, if_pos ⟨c3.1, c3.2.1, by omega⟩]
      · rw [if_neg c3, if_neg c, if_neg (fun z => c3 ⟨z.1, z.2.1, by by_cases e : j = s; exact absurd ⟨z.1, z.2.1, e⟩ c2; omega⟩), if_neg c]
theorem t_append2 {post : VS → Prop} {h : Nat} (hk12 : (12, w, 0) ∈ ks) (hk13 : (13, w, 0) ∈ ks) (h15 : A 15 0 0 = nI (zN A)) (hz : zN A < 8) (hp : post (cput N w (apA A h) D V)) : wp_X5_append ks w (nI h) (cput N w A D V) post := by
  refine ⟨hk12, ?_⟩
  rw [cr15, h15]
  refine ⟨fun z => absurd z (nI_pos (by omega)), fun _ => ⟨hk13, pk_le (x := 8) 8 (zN A) (fun z => absurd z (by omega)) (fun _ => ⟨pk_in (zN A) 8 hz, ?_⟩)⟩⟩
  rw [nI_clamp (by omega), cw14 hz]
  rintro _ rfl
  rw [cr15, cw15, au_f (by decide), h15, nI_1]
  rintro _ rfl
  exact hp
theorem pw_s : 10 ^ e / 10 = pw e := by
  rcases e with _ | e
  · rfl
  · rw [Nat.pow_succ]; exact Nat.mul_div_cancel _ (by decide)
theorem p10_le (he : e ≤ 7) : 10 ^ e ≤ 10000000 := Nat.le_trans (Nat.pow_le_pow_right (n := 10) (by decide) he) (by decide)
theorem t_tell {post : VS → Prop} {a2 : Int32} (hk12 : (12, 0, 0) ∈ ks) (hk13 : (13, 0, 0) ∈ ks) (hn : n < 100000000) (hL : Ln n m) (hO : Od nh n m) (hp : post (cput N 0 (RA A n m m) D (vup V 12 0 0 2 0 a2))) : wp_X5_tellAnew ks 0 (nI n) a2 (cput N 0 A D V) post := by
  refine ⟨hk12, ?_⟩
  rintro _ rfl _ rfl
  rw [cput_c rfl (by decide), cw15, ← RA_0 (n := n) (m := m)]
  have h8 := hL.1
  refine ⟨fun k x3 V' => k ≤ 8 ∧ x3 = nI (pw k) ∧ V' = cput N 0 (RA A n m (m - k)) D (vup V 12 0 0 2 0 a2), ⟨8, Nat.le_refl _, rfl, by rw [show m - 8 = 0 by omega]⟩, ?_⟩
  rintro k _ _ ⟨hk, rfl, rfl⟩
  rcases k with _ | e
  · refine pk_le 0 0 (fun _ => ?_) (fun z => absurd z (Nat.lt_irrefl 0))
    exact hp
  have h10 := p10_le (e := e) (by omega)
  have hpos : 0 < 10 ^ e := Nat.pow_pos (by decide)
  have hle := dv_le (n := n) (e := e)
  show _ ∧ _
  refine pk_le (x := nI (pw (e + 1))) (10 ^ e) 0 (fun z => absurd z (by omega)) (fun _ => ⟨nI_ne0 (n := pw (e + 1)) hpos (show 10 ^ e < 2 ^ 31 by omega), ?_⟩)
  rw [show nI n / nI (pw (e + 1)) = nI (n / 10 ^ e) from pk_div (d := 10 ^ e) (by omega) hpos (by omega), rem10 (by omega)]
  rintro _ rfl
  have hdg := dg_lt (n := n) (e := e)
  have enx : nI (pw (e + 1)) / 10 = nI (pw e) := by
    rw [show nI (pw (e + 1)) / 10 = nI (10 ^ e / 10) from pk_div (d := 10) (show 10 ^ e < 2 ^ 31 by omega) (by decide) (by decide), pw_s]
  refine pk_le (x := nI (n / 10 ^ e % 10)) (dg n e) 0 (fun c => ?_) (fun c => ⟨hk12, ?_⟩)
  · have hme : m ≤ e := Nat.not_lt.mp (fun z => by have := hO e z; omega)
    rintro _ rfl
    exact ⟨e, by omega, by omega, enx, by rw [show m - (e + 1) = m - e by omega]⟩
  · have hem : e < m := Ln_lt hL (fun z => by unfold dg at c; rw [z] at c; exact absurd c (by decide))
    have ez : zN (RA A n m (m - (e + 1))) = m - (e + 1) := by unfold zN; rw [RA_15]; exact nI_clamp (by omega)
    rw [show nI (n / 10 ^ e % 10) - 1 = nI (dg n e - 1) from pk_sub (a := dg n e) (b := 1) (by omega)]
    refine t_append2 hk12 hk13 (by rw [ez, RA_15]) (by rw [ez]; omega) ?_
    rw [RA_s (by omega) h8 (by rw [show m - 1 - (m - (e + 1)) = e by omega])]
    rintro _ rfl
    exact ⟨e, by omega, by omega, enx, by rw [show m - (e + 1) + 1 = m - e by omega]⟩
theorem RB_0 : RB A n m 0 = au A 15 0 0 (nI m) := by
  funext f i j
  unfold RB au
  rw [if_neg (by omega)]
theorem RB_m : RB A n m m = RA A n m m := by
  funext f i j
  unfold RB RA
  by_cases c : f = 14 ∧ i = 0 ∧ j < m
  · rw [if_pos c, if_pos ⟨c.1, c.2.1, by omega, c.2.2⟩]
  · rw [if_neg c, if_neg (fun z => c ⟨z.1, z.2.1, z.2.2.2⟩)]
theorem RB_s (he : e < m) : au (RB A n m e) 14 0 (m - e - 1) (nI (dg n e - 1)) = RB A n m (e + 1) := by
  funext f i j
  unfold au RB
  by_cases c : f = 14 ∧ i = 0 ∧ j = m - e - 1
  · rw [if_pos c, if_pos ⟨c.1, c.2.1, by omega, by omega⟩, c.2.2, show m - 1 - (m - e - 1) = e by omega]
  · rw [if_neg c]
    by_cases c2 : f = 14 ∧ i = 0 ∧ m - e ≤ j ∧ j < m
    · rw [if_pos c2, if_pos ⟨c2.1, c2.2.1, by omega, c2.2.2.2⟩]
    · rw [if_neg c2]
      exact (if_neg (fun z => c2 ⟨z.1, z.2.1, by by_cases q : j = m - e - 1; exact absurd ⟨z.1, z.2.1, q⟩ c; omega, z.2.2.2⟩)).symm
theorem m_set {post : Int32 → VS → Prop} {b1 b2 a2 : Int32} (hB : Bs N S ks V) (hn : n < 100000000) (hL : Ln n m) (hO : Od nh n m) (hp : post (nI m) (vup (mput 0 (RA A n m m) T V') 15 0 0 5 0 a2)) : wl_X10_setRound_95 ks b1 b2 post a2 (nI m) (nI n) (mput 0 (RB A n m 0) T V') := by
  have h01 : (0 : Nat) ≤ 1 := Nat.zero_le _
  have h8 := hL.1
  refine ⟨fun k x4 x5 V9 => ∃ e, e + k = m ∧ x4 = nI (m - e) ∧ x5 = nI (n / 10 ^ e) ∧ V9 = mput 0 (RB A n m e) T V', ⟨m, 0, by omega, rfl, by rw [Nat.pow_zero, Nat.div_one], rfl⟩, ?_⟩
  rintro k _ _ _ ⟨e, he, rfl, rfl, rfl⟩
  have hle := dv_le (n := n) (e := e)
  refine pk_le (n / 10 ^ e) 0 (fun c => ⟨hB.k15, ?_⟩) (fun c => ?_)
  · have := Ln_ge hL (Nat.le_zero.mp c)
    obtain rfl : e = m := by omega
    rintro _ rfl
    refine ⟨hB.k16 h01, ?_⟩
    rw [vup_ne (by decide), mr15, RB_m, RA_15]
    exact hp
  have hem := Ln_lt hL (Nat.pos_iff_ne_zero.mp c)
  have hok := hO e hem
  rintro _ rfl
  rw [show nI (m - e) + (-1) = nI (m - e - 1) by rw [show m - e = (m - e - 1) + 1 by omega, pk_m1]; rfl]
  refine ⟨hB.k15, hB.k16 h01, hB.km (by decide) (by decide) h01, pk_in (m - e - 1) 8 (by omega), ?_⟩
  rw [nI_clamp (by omega), rem10 (by omega), div10 (by omega), show nI (n / 10 ^ e % 10) - 1 = nI (dg n e - 1) from pk_sub (a := dg n e) (b := 1) hok.1, mw14 (by omega), RB_s hem]
  rintro _ rfl _ rfl
  exact ⟨k - 1, by omega, e + 1, by omega, by rw [Nat.sub_add_eq], by rw [dv_s], rfl⟩
theorem u_set0 {a1 a2 : Int32} (hI : IV B N S A ks V) (hk : B ≤ 60 * k) : wb_X10_setRound_32 ks a1 a2 (fun b V2 => wp_X10_thrown ks V2 (fun t V3 => t = 1 ∧ ((1 : Int32) = 0 → V3 34 0 0 0 0 = b) ∧ (34, 0, 0) ∈ ks ∧ Inv k ks V3)) a1 a2 0 V := by
  have no : ∀ x4 : Int32, wb_X10_setRound_73 ks a1 a2 (fun b V2 => wp_X10_thrown ks V2 (fun t V3 => t = 1 ∧ ((1 : Int32) = 0 → V3 34 0 0 0 0 = b) ∧ (34, 0, 0) ∈ ks ∧ Inv k ks V3)) a1 a2 0 x4 V := fun x4 => ⟨fun _ => ⟨hI.1.k15, u_no hI hk rfl (by decide)⟩, fun z => absurd rfl z⟩
  refine ⟨fun _ x3 x4 x5 V' => x3 = 0 ∧ x5 = a1 ∧ V' = V, ⟨0, rfl, rfl, rfl⟩, ?_⟩
  rintro n _ x4 _ _ ⟨rfl, rfl, rfl⟩
  exact ⟨fun _ => no x4, fun _ => ⟨fun _ => no x4, fun z => absurd rfl z⟩⟩
theorem u_dig {post : Int32 → VS → Prop} {a2 : Int32} (hB : Bs N S ks V) (hm1 : X 15 0 0 1 0 = nI (N 0)) (hn : n < 100000000) (hL : Ln n m) (h1 : Od (N 0) n m → wb_X10_setRound_73 ks (nI n) a2 post (nI n) a2 1 (nI m) X) (h0 : ¬ Od (N 0) n m → ∀ x4 : Int32, wb_X10_setRound_73 ks (nI n) a2 post (nI n) a2 0 x4 X) : wb_X10_setRound_32 ks (nI n) a2 post (nI n) a2 1 X := by
  have hN := hB.n
  refine ⟨fun k x3 x4 x5 V' => V' = X ∧ ((x3 = 0 ∧ ¬ Od (N 0) n m) ∨ ∃ e, e + k = m ∧ x3 = 1 ∧ x4 = nI e ∧ x5 = nI (n / 10 ^ e) ∧ Od (N 0) n e), ⟨m, rfl, Or.inr ⟨0, by omega, rfl, rfl, by rw [Nat.pow_zero, Nat.div_one], fun e he => absurd he (Nat.not_lt_zero _)⟩⟩, ?_⟩
  rintro k x3 x4 x5 _ ⟨rfl, hor⟩
  rcases hor with ⟨rfl, hno⟩ | ⟨e, he, rfl, rfl, rfl, hok⟩
  · exact ⟨fun _ => h0 hno x4, fun _ => ⟨fun _ => h0 hno x4, fun z => absurd rfl z⟩⟩
  have hle := dv_le (n := n) (e := e)
  refine pk_le (n / 10 ^ e) 0 (fun c => ?_) (fun c => ⟨fun z => absurd z (by decide), fun _ => ⟨hB.k15, ?_⟩⟩)
  · have := Ln_ge hL (Nat.le_zero.mp c)
    obtain rfl : e = m := by omega
    exact h1 hok
  have hem := Ln_lt hL (Nat.pos_iff_ne_zero.mp c)
  have hdg := dg_lt (n := n) (e := e)
  rw [rem10 (by omega), div10 (by omega)]
  by_cases c2 : 1 ≤ dg n e ∧ dg n e ≤ N 0
  · rw [show nI (n / 10 ^ e % 10) - 1 = nI (dg n e - 1) from pk_sub (a := dg n e) (b := 1) c2.1]
    refine ⟨hB.k15, u_nO (n := N 0) (by omega) (by omega) hm1 ⟨Or.inr rfl, ?_⟩⟩
    rintro _ rfl _ rfl
    refine ⟨k - 1, by omega, rfl, Or.inr ⟨e + 1, by omega, rfl, nI_1 e, by rw [dv_s], fun e' he' => ?_⟩⟩
    by_cases q : e' = e
    · rw [q]; exact c2
    · exact hok e' (by omega)
  · refine ⟨hB.k15, u_nX (n := N 0) (by omega) hm1 ?_ ⟨Or.inl rfl, ?_⟩⟩
    · by_cases c3 : 1 ≤ dg n e
      · rw [show nI (n / 10 ^ e % 10) - 1 = nI (dg n e - 1) from pk_sub (a := dg n e) (b := 1) c3]
        exact Or.inr (nI_le (by omega) (by omega))
      · rw [show n / 10 ^ e % 10 = 0 from Nat.le_zero.mp (by unfold dg at c3; omega)]
        exact Or.inl (by decide)
    · rintro _ rfl _ rfl
      exact ⟨0, by omega, rfl, Or.inl ⟨rfl, fun z => c2 (z e hem)⟩⟩
theorem WF_RA (hN : N 0 ≤ 8) (h8 : m ≤ 8) (hO : Od (N 0) n m) (hW : WF B N A) : WF B N (RA A n m m) := by
  have o : ∀ {f i j : Nat}, f ≠ 14 → f ≠ 15 → RA A n m m f i j = A f i j := fun h1 h2 => by
    unfold RA
    rw [if_neg (fun z => h1 z.1), if_neg (fun z => h2 z.1)]
  obtain ⟨h1, h2, h3, h4, h5, h6, h7, h8z⟩ := hW
  refine ⟨h1, h2, ⟨m, h8, RA_15, fun j hj => ?_⟩, h4, h5, h6, h7, h8z⟩
  have := hO (m - 1 - j) (by omega)
  refine ⟨dg n (m - 1 - j) - 1, by omega, ?_⟩
  unfold RA
  rw [if_pos ⟨rfl, rfl, hj⟩]
theorem o_setRound {a1 a2 : Int32} (hI : IV B N S A ks V) (hk : B ≤ 60 * k) : sp_setRound (Inv k) ks a1 a2 V := by
  have hN := hI.1.n
  have h01 : (0 : Nat) ≤ 1 := Nat.zero_le _
  have hI9 := hI.th (x := 0)
  -- both refuse
  have REF : (a1 < 0 ∨ (100000000 : Int32) ≤ a1 ∨ (a2 < 10 ∨ (300 : Int32) < a2)) → (15, 0, 0) ∈ ks ∧ wp_X10_setRound ks a1 a2 V (fun b V2 => wp_X10_thrown ks V2 (fun t V3 => t = 1 ∧ ((1 : Int32) = 0 → V3 34 0 0 0 0 = b) ∧ (34, 0, 0) ∈ ks ∧ Inv k ks V3)) := by
    intro hr
    refine ⟨hI.1.k15, hI.1.k15, ?_⟩
    rintro _ rfl
    refine ⟨fun _ => u_set0 hI9 hk, fun c => ⟨fun _ => u_set0 hI9 hk, fun c2 => ?_⟩⟩
    refine u_inX ?_ ⟨fun _ => u_set0 hI9 hk, fun z => absurd rfl z⟩
    rcases hr with z | z | z
    · exact absurd z c
    · exact absurd z c2
    · exact z
  rcases in_kind (y := a1) 100000000 (by decide) with ha1 | ⟨n, hn, rfl⟩
  · have hx : a1 < 0 ∨ (99999999 : Int32) < a1 := by
      rcases ha1 with z | z
      · exact Or.inl z
      · by_cases c : a1 < 0
        · exact Or.inl c
        · obtain ⟨j, hj, rfl⟩ := nI_of c
          have := (nI_leI (a := 100000000) (by decide) hj).mp z
          exact Or.inr (nI_lt (a := 99999999) (by omega) hj)
    exact ⟨hI.1.k0, hI.1.k34, v_inX hx ⟨fun _ => ⟨rfl, REF (by rcases ha1 with z | z; exact Or.inl z; exact Or.inr (Or.inl z))⟩, fun z => absurd rfl z⟩⟩
  have hx : ¬ (nI n < 0 ∨ (99999999 : Int32) < nI n) := fun z => by
    rcases z with z | z
    · exact nI_pos (by omega) z
    · have := (nI_ltI (a := 99999999) (b := n) (by decide) (by omega)).mp z
      omega
  obtain ⟨m, hL⟩ := Ln_ex hn
  have h8 := hL.1
  by_cases c2 : a2 < 10 ∨ (300 : Int32) < a2
  · refine ⟨hI.1.k0, hI.1.k34, v_inO hx ⟨fun z => absurd z (by decide), fun _ => ⟨hI.1.k0, hI.1.k1 h01, hI.1.k2 h01 (by decide), ?_⟩⟩⟩
    rw [hI.1.sz h01 (by decide)]
    exact t_stands hn hL hN.1 (fun _ => ⟨fun z => absurd z (by decide), fun _ => v_inX c2 ⟨fun _ => ⟨rfl, REF (Or.inr (Or.inr c2))⟩, fun z => absurd rfl z⟩⟩) (fun _ => ⟨fun _ => ⟨rfl, REF (Or.inr (Or.inr c2))⟩, fun z => absurd rfl z⟩)
  have n0 : ¬ nI n < 0 := nI_pos (by omega)
  have n1 : ¬ (100000000 : Int32) ≤ nI n := nI_ge (b := 100000000) hn (by decide)
  refine ⟨hI.1.k0, hI.1.k34, v_inO hx ⟨fun z => absurd z (by decide), fun _ => ⟨hI.1.k0, hI.1.k1 h01, hI.1.k2 h01 (by decide), ?_⟩⟩⟩
  rw [hI.1.sz h01 (by decide)]
  refine t_stands hn hL hN.1 (fun hO => ⟨fun z => absurd z (by decide), fun _ => v_inO c2 ⟨fun z => absurd z (by decide), fun _ => ⟨hI.1.k12 h01, ?_⟩⟩⟩) (fun hO => ⟨fun _ => ⟨rfl, hI.1.k15, hI.1.k15, ?_⟩, fun z => absurd rfl z⟩)
  · refine clC (P := fun V9 => wp_X5_tellAnew ks 0 (nI n) a2 V9 _) hI.2.2.1 (t_tell (hI.1.k12 h01) (hI.1.k13 h01) hn hL hO ⟨hI.1.k12 h01, ?_⟩)
    rw [cr15, RA_15]
    refine ⟨hI.1.k15, hI.1.k15, ?_⟩
    rintro _ rfl
    obtain ⟨mm, hmm, rfl⟩ : ∃ j, j ≤ 300 ∧ a2 = nI j := nI_of2 (M := 300) (n := 300) (by decide) (fun z => c2 (Or.inl (Int32.lt_iff_toInt_lt.mpr (by
      have := Int32.lt_iff_toInt_lt.mp z
      have e0 : (0 : Int32).toInt = 0 := by decide
      have e1 : (10 : Int32).toInt = 10 := by decide
      omega)))) (Int32.not_lt.mp (fun z => c2 (Or.inr z)))
    have hm10 : 10 ≤ mm := Nat.not_lt.mp (fun z => c2 (Or.inl (nI_lt (b := 10) z (by decide))))
    have hV : ∀ k w' i f j, stat k w' f = true → ¬ (k = 12 ∧ f = 2) → vup (vup (cput N 0 (RA A n m m) (V 11 0 0 0) (vup V 12 0 0 2 0 (nI mm))) 34 0 0 0 0 (nI m)) 15 0 0 0 0 0 k w' i f j = V k w' i f j := by
      intro k w' i f j hs h12
      have hk := stat_k hs
      refine (if_neg (fun z => hk.2.2.2 z.1 z.2.2.2.1)).trans ?_
      rw [vup_ne (fun z => hk.2.2.1 z.1), cput_o (cfld_stat hs) hk.1]
      exact if_neg (fun z => h12 ⟨z.1, z.2.2.2.1⟩)
    have e12 : vup (vup (cput N 0 (RA A n m m) (V 11 0 0 0) (vup V 12 0 0 2 0 (nI mm))) 34 0 0 0 0 (nI m)) 15 0 0 0 0 0 12 0 0 2 0 = nI mm := by
      rw [vup_ne (by decide), vup_ne (by decide), cput_o rfl (by decide)]; exact vup_eq
    have hC1 : isC N 0 (RA A n m m) (vup (vup (cput N 0 (RA A n m m) (V 11 0 0 0) (vup V 12 0 0 2 0 (nI mm))) 34 0 0 0 0 (nI m)) 15 0 0 0 0 0) := isC_v (by decide) (isC_v (by decide) isC_put)
    have hM0 : isM 0 A (vup V 12 0 0 2 0 (nI mm)) := fun k f j h1 h2 => by
      have hk := mfld_high h1
      rw [vup_ne (by omega)]
      exact hI.2.2.2 k f j h1 h2
    have hM1 : isM 0 A (vup (vup (cput N 0 (RA A n m m) (V 11 0 0 0) (vup V 12 0 0 2 0 (nI mm))) 34 0 0 0 0 (nI m)) 15 0 0 0 0 0) := isM_v (Or.inl rfl) (isM_v (Or.inr rfl) (isM_c hM0))
    have e15 : vup (vup (cput N 0 (RA A n m m) (V 11 0 0 0) (vup V 12 0 0 2 0 (nI mm))) 34 0 0 0 0 (nI m)) 15 0 0 0 0 0 15 0 0 0 0 = 0 := vup_th
    have e34 : vup (vup (cput N 0 (RA A n m m) (V 11 0 0 0) (vup V 12 0 0 2 0 (nI mm))) 34 0 0 0 0 (nI m)) 15 0 0 0 0 0 34 0 0 0 0 = nI m := ot34
    generalize vup (vup (cput N 0 (RA A n m m) (V 11 0 0 0) (vup V 12 0 0 2 0 (nI mm))) 34 0 0 0 0 (nI m)) 15 0 0 0 0 0 = V2 at hV e12 hC1 hM1 e15 e34
    -- the class's world as it was, with its old minutes: only the counts matter
    have hm1 : V2 15 0 0 1 0 = nI (N 0) := (hV 15 0 0 1 0 rfl (by decide)).trans hI.1.m1
    have hWR := WF_RA hN.1 h8 hO hI.2.1
    refine ⟨fun z => absurd z n0, fun _ => ⟨fun z => absurd z n1, fun _ => u_inO c2 ⟨fun z => absurd z (by decide), fun _ => u_dig hI.1 hm1 hn hL (fun _ => ⟨fun z => absurd z (by decide), fun _ => ⟨hI.1.k15, hI.1.k16 h01, ?_⟩⟩) (fun z => absurd hO z)⟩⟩⟩
    rintro _ rfl
    refine clM (P := fun V9 => wl_X10_setRound_95 ks (nI n) (nI mm) _ (nI mm) (nI m) (nI n) (vup V9 16 0 0 5 0 (nI m))) hM1 ?_
    rw [mw15, ← RB_0 (n := n)]
    refine m_set hI.1 hn hL hO ?_
    have hI2 : IV B N (fun f j => if f = 29 ∧ j = 0 then mm else S f j) (RA A n m m) ks (vup (mput 0 (RA A n m m) (V2 21 0 0 0) V2) 15 0 0 5 0 (nI mm)) := by
      refine ⟨Bs_S hI.1 (fun f j hf => if_neg (fun z => by omega)) (fun k w' i f j hs hk2 => ?_) (fun d hd => ?_) ⟨?_, ?_⟩ (fun d hd => ?_) ?_, hWR, isC_v (by decide) (isC_m hC1), isM_v (Or.inl rfl) isM_put⟩
      · refine (if_neg (fun z => hk2 (Or.inr (Or.inr (Or.inr ⟨z.1, z.2.2.2.1⟩))))).trans ?_
        rw [mput_o (mfld_stat hs) (stat_k hs).2.1]
        exact hV k w' i f j hs (fun z => hk2 (Or.inr (Or.inr (Or.inl z.1))))
      · rw [if_neg (by omega), vup_ne (by decide), vup_ne (by decide), mput_o rfl (by decide), mput_o rfl (by decide), hV 18 0 0 0 d rfl (by decide), hV 14 0 0 0 d rfl (by decide)]
        exact ⟨hI.1.mrain hd, hI.1.rn.1 d hd⟩
      · rw [if_pos ⟨rfl, rfl⟩]; exact vup_eq
      · rw [if_pos ⟨rfl, rfl⟩, vup_ne (by decide), mput_o rfl (by decide)]; exact e12
      · rw [if_neg (by omega)]; exact hI.1.srain hd
      · rw [if_pos ⟨rfl, rfl⟩]; exact ⟨hm10, hmm⟩
    refine u_alike hI2 hk ?_ ?_ rfl
    · exact (if_neg (fun z => by omega)).trans ((mput_o rfl (by decide)).trans e15)
    · rw [vup_ne (by decide)]; exact (mput_o rfl (by decide)).trans e34
  · rintro _ rfl
    exact ⟨fun z => absurd z n0, fun _ => ⟨fun z => absurd z n1, fun _ => u_inO c2 ⟨fun z => absurd z (by decide), fun _ => u_dig hI.1 hI9.1.m1 hn hL (fun z => absurd z hO) (fun _ x4 => ⟨fun _ => ⟨hI.1.k15, u_no hI9 hk rfl (by decide)⟩, fun z => absurd rfl z⟩)⟩⟩⟩
end
