/-! pure: a day -/
def dN (A : AF) : Nat := (A 0 0 0).toNatClampNeg
def zN (A : AF) : Nat := (A 15 0 0).toNatClampNeg
def hA (A : AF) (k : Nat) : Nat := (A 14 0 k).toNatClampNeg
def weaF (N : Nat → Nat) (S : Nat → Nat → Nat) (A : AF) : AF := weaA S (nI (S 28 (dN A % 7))) (N 1) A
def rst (d : Nat → Nat → Nat) (N : Nat → Nat) (S : Nat → Nat → Nat) (k : Nat) (q : Nat × Nat × AF) : Nat × Nat × AF :=
  if q.2.1 + d q.1 (hA q.2.2 k) + 5 + d (hA q.2.2 k) 0 ≤ S 29 0 then (hA q.2.2 k, q.2.1 + d q.1 (hA q.2.2 k) + 5, au (srvA N S (hA q.2.2 k) q.2.2) 3 (hA q.2.2 k) 0 (q.2.2 3 (hA q.2.2 k) 0 + 1))
  else (q.1, q.2.1, au q.2.2 4 (hA q.2.2 k) 0 (q.2.2 4 (hA q.2.2 k) 0 + 1))
def rndF (N : Nat → Nat) (S : Nat → Nat → Nat) (A : AF) (k : Nat) : Nat × Nat × AF := itn (rst (dt N S A) N S) k (0, 0, A)
def usdF (N : Nat → Nat) (S : Nat → Nat → Nat) (A : AF) : Nat := if (rndF N S A (zN A)).2.1 = 0 then 0 else (rndF N S A (zN A)).2.1 + dt N S A (rndF N S A (zN A)).1 0
def goF (N : Nat → Nat) (S : Nat → Nat → Nat) (A : AF) : AF := au (rndF N S A (zN A)).2.2 1 0 0 (nI (usdF N S A))
def dayF (N : Nat → Nat) (S : Nat → Nat → Nat) (A : AF) : AF := au (goF N S (weaF N S A)) 0 0 0 (A 0 0 0 + 1)
def daysF (N : Nat → Nat) (S : Nat → Nat → Nat) (n : Nat) (A : AF) : AF := itn (fun _ => dayF N S) n A
section
variable {B : Nat} {N : Nat → Nat} {S : Nat → Nat → Nat} {ks : List KY} {V X : VS} {w h b r i p q k n : Nat} {A : AF} {D : Nat → Int32} {x : Int32} {Q : Nat → Bool}
theorem bk_o {f j : Nat} (h : f ∉ [5, 6, 11, 13]) : bkA N A Q f i j = A f i j := by
  simp only [List.mem_cons, List.not_mem_nil, or_false, not_or] at h
  exact bkf ⟨h.1, h.2.1, h.2.2.1, h.2.2.2⟩
theorem lend_o {f j : Nat} (h : f ∉ [5, 6, 7, 10, 12, 13, 16, 17]) : lendA A r b f i j = A f i j := by
  simp only [List.mem_cons, List.not_mem_nil, or_false, not_or] at h
  obtain ⟨h5, h6, h7, h10, h12, h13, h16, h17⟩ := h
  unfold lendA
  rw [au_f h16, au_f h17, au_f h12, au_f h10, au_f h13, au_f h7, au_f h6, au_f h5]
theorem oth_o {f j : Nat} (h9 : f ∉ [5, 6, 7, 10, 12, 13, 16, 17]) : othS N S h r A f i j = A f i j := by
  unfold othS choA
  split
  · split
    · exact lend_o h9
    · rfl
  · rfl
/-- what serving leaves alone -/
theorem srv_o {f j : Nat} (h9 : f ∉ [5, 6, 7, 8, 9, 10, 11, 12, 13, 16, 17]) : srvA N S h A f i j = A f i j := by
  simp only [List.mem_cons, List.not_mem_nil, or_false, not_or] at h9
  have key : ∀ n, itn (othS N S h) n (rvAll N S h (bkAll N S h A)) f i j = A f i j := by
    intro n
    induction n with
    | zero =>
      show rvA N (bkA N A _) _ f i j = _
      rw [rvf (by simp [h9]), bk_o (by simp [h9])]
    | succ n ih =>
      show othS N S h n _ f i j = _
      rw [oth_o (by simp [h9])]; exact ih
  exact key _
theorem bk_au (hf : p = 1 ∨ p = 3) : bkA N (au A p i 0 x) Q = au (bkA N A Q) p i 0 x := by
  rcases hf with rfl | rfl
  · funext f i' j
    by_cases c : f = 1
    · subst c
      rw [bkf (by decide)]
      exact au_c (bkf (by decide)).symm rfl
    · have e : (au A 1 i 0 x) f i' j = A f i' j := au_f c
      rw [au_f c]
      unfold bkA
      rw [e]; rfl
  · funext f i' j
    by_cases c : f = 3
    · subst c
      rw [bkf (by decide)]
      exact au_c (bkf (by decide)).symm rfl
    · have e : (au A 3 i 0 x) f i' j = A f i' j := au_f c
      rw [au_f c]
      unfold bkA
      rw [e]; rfl
theorem rv_au (hf : p = 1 ∨ p = 3) : rvA N (au A p i 0 x) Q = au (rvA N A Q) p i 0 x := by
  rcases hf with rfl | rfl
  · funext f i' j
    by_cases c : f = 1
    · subst c
      rw [rvf (by decide)]
      exact au_c (rvf (by decide)).symm rfl
    · have e : (au A 1 i 0 x) f i' j = A f i' j := au_f c
      rw [au_f c]
      unfold rvA
      rw [e]; rfl
  · funext f i' j
    by_cases c : f = 3
    · subst c
      rw [rvf (by decide)]
      exact au_c (rvf (by decide)).symm rfl
    · have e : (au A 3 i 0 x) f i' j = A f i' j := au_f c
      rw [au_f c]
      unfold rvA
      rw [e]; rfl
theorem lend_au (hf : p = 1 ∨ p = 3) : lendA (au A p i 0 x) r b = au (lendA A r b) p i 0 x := by
  rcases hf with rfl | rfl
  · funext f i' j
    by_cases c : f = 1
    · subst c
      rw [lend_o (by decide)]
      exact au_c (lend_o (by decide)).symm rfl
    · have e : (au A 1 i 0 x) f i' j = A f i' j := au_f c
      rw [au_f c]
      unfold lendA
      exact au_c (au_c (au_c (au_c (au_c (au_c (au_c (au_c e rfl) rfl) rfl) rfl) rfl) rfl) rfl) rfl
  · funext f i' j
    by_cases c : f = 3
    · subst c
      rw [lend_o (by decide)]
      exact au_c (lend_o (by decide)).symm rfl
    · have e : (au A 3 i 0 x) f i' j = A f i' j := au_f c
      rw [au_f c]
      unfold lendA
      exact au_c (au_c (au_c (au_c (au_c (au_c (au_c (au_c e rfl) rfl) rfl) rfl) rfl) rfl) rfl) rfl
theorem oth_au (hf : p = 1 ∨ p = 3) : othS N S h r (au A p i 0 x) = au (othS N S h r A) p i 0 x := by
  have e1 : okc S (au A p i 0 x) r = okc S A r := by rcases hf with rfl | rfl <;> rfl
  have e2 : (au A p i 0 x) 13 r 0 = A 13 r 0 := by rcases hf with rfl | rfl <;> rfl
  unfold othS choA
  rw [e1, e2]
  split
  · split
    · exact lend_au hf
    · rfl
  · rfl
theorem rl_au (hf : p = 1 ∨ p = 3) (b r : Nat) : rl N S (au A p i 0 x) h b r = rl N S A h b r := by
  have e1 : can N S (au A p i 0 x) h = can N S A h := by rcases hf with rfl | rfl <;> rfl
  have e2 : fr (au A p i 0 x) = fr A := by rcases hf with rfl | rfl <;> rfl
  have e3 : hc (au A p i 0 x) = hc A := by rcases hf with rfl | rfl <;> rfl
  induction b with
  | zero => rfl
  | succ b ih =>
    show rl N S (au A p i 0 x) h b r + _ = rl N S A h b r + _
    rw [ih, e1, e2, e3]
theorem srv_au (hf : p = 1 ∨ p = 3) : srvA N S h (au A p i 0 x) = au (srvA N S h A) p i 0 x := by
  have e1 : due N S (au A p i 0 x) h = due N S A h := by rcases hf with rfl | rfl <;> rfl
  have eb : bkAll N S h (au A p i 0 x) = au (bkAll N S h A) p i 0 x := by
    unfold bkAll
    rw [e1]; exact bk_au hf
  have el : ∀ A, Lb N S (au A p i 0 x) h = Lb N S A h := by
    intro A
    funext b
    have e1 : can N S (au A p i 0 x) h b = can N S A h b := by rcases hf with rfl | rfl <;> rfl
    have e2 : fr (au A p i 0 x) b = fr A b := by rcases hf with rfl | rfl <;> rfl
    have e3 : hc (au A p i 0 x) (fr A b) = hc A (fr A b) := by rcases hf with rfl | rfl <;> rfl
    unfold Lb
    rw [e1, e2, e3, rl_au hf]
  have er : rvAll N S h (au (bkAll N S h A) p i 0 x) = au (rvAll N S h (bkAll N S h A)) p i 0 x := by
    unfold rvAll
    rw [el]; exact rv_au hf
  have key : ∀ n, itn (othS N S h) n (au (rvAll N S h (bkAll N S h A)) p i 0 x) = au (itn (othS N S h) n (rvAll N S h (bkAll N S h A))) p i 0 x := by
    intro n
    induction n with
    | zero => rfl
    | succ n ih =>
      show othS N S h n (itn (othS N S h) n (au (rvAll N S h (bkAll N S h A)) p i 0 x)) = au (othS N S h n _) p i 0 x
      rw [ih, oth_au hf]
  unfold srvA
  rw [eb, er, key]
theorem WF_a3 (hh : h < N 0) (hW : WF B N A) : WF B N (au A 3 h 0 x) := by
  obtain ⟨h1, h2, h3, h4, h5, h6, h7, h8⟩ := hW
  refine ⟨h1, h2, h3, h4, h5, h6, h7, h8.1, fun i hi => ⟨?_, (h8.2.1 i hi).2⟩, h8.2.2⟩
  rw [au_i (by omega)]; exact (h8.2.1 i hi).1
theorem WF_a4 (hh : h < N 0) (hW : WF B N A) : WF B N (au A 4 h 0 x) := by
  obtain ⟨h1, h2, h3, h4, h5, h6, h7, h8⟩ := hW
  refine ⟨h1, h2, h3, h4, h5, h6, h7, h8.1, fun i hi => ⟨(h8.2.1 i hi).1, ?_⟩, h8.2.2⟩
  rw [au_i (by omega)]; exact (h8.2.1 i hi).2
theorem WF_a1 (hW : WF B N A) : WF B N (au A 1 0 0 x) := hW
theorem WF_a0 {B' d : Nat} (hd : d ≤ B') (hW : WF B N A) : WF B' N (au A 0 0 0 (nI d)) := ⟨⟨d, hd, au_at⟩, hW.2⟩
theorem WF_dN (hW : WF B N A) (hB : B < 2 ^ 31) : A 0 0 0 = nI (dN A) ∧ dN A ≤ B := by
  obtain ⟨d, hd, e⟩ := hW.1
  have : dN A = d := by unfold dN; rw [e]; exact nI_clamp (by omega)
  rw [this]; exact ⟨e, hd⟩
theorem WF_zN (hW : WF B N A) (hn : N 0 ≤ 8) : A 15 0 0 = nI (zN A) ∧ zN A ≤ 8 ∧ ∀ j, j < zN A → A 14 0 j = nI (hA A j) ∧ hA A j < N 0 := by
  obtain ⟨z, hz, e, g⟩ := hW.2.2.1
  have : zN A = z := by unfold zN; rw [e]; exact nI_clamp (by omega)
  rw [this]
  refine ⟨e, hz, fun j hj => ?_⟩
  obtain ⟨h, hh, e2⟩ := g j hj
  have : hA A j = h := by unfold hA; rw [e2]; exact nI_clamp (by omega)
  rw [this]; exact ⟨e2, hh⟩
set_option maxRecDepth 10000 in
theorem wm_all : ∀ r, r < 10 → ∀ m, m < 21 → ∀ c, c < 10 → wm (nI r) (nI m) (nI c) = nI (wm (nI r) (nI m) (nI c)).toNatClampNeg ∧ (wm (nI r) (nI m) (nI c)).toNatClampNeg ≤ 20 := by decide +kernel
theorem WF_wea {n : Nat} (hx : n < 10) (hs : ∀ l, l < N 1 → S 23 l ≤ 9) (hW : WF B N A) : WF B N (weaA S (nI n) (N 1) A) := by
  have o : ∀ {f i j : Nat}, f ≠ 2 → weaA S (nI n) (N 1) A f i j = A f i j := fun hf => if_neg (fun z => hf z.1)
  obtain ⟨h1, h2, h3, h4, h5, h6, h7, h8⟩ := hW
  refine ⟨h1, fun i hi => ?_, h3, h4, h5, h6, h7, fun i hi => ?_, h8.2⟩
  · obtain ⟨m, hm, e⟩ := h2 i hi
    have e2 : weaA S (nI n) (N 1) A 2 i 0 = wm (nI n) (A 2 i 0) (nI (S 23 i)) := if_pos ⟨rfl, hi, rfl⟩
    have h := wm_all n hx m (by omega) (S 23 i) (by have := hs i hi; omega)
    rw [e2, e]
    exact ⟨_, h.2, h.1⟩
  · have e2 : weaA S (nI n) (N 1) A 2 i 0 = A 2 i 0 := if_neg (fun z => by omega)
    rw [e2]; exact h8.1 i hi
theorem WF_weaF (hs : ∀ l, l < N 1 → S 23 l ≤ 9) (hr : ∀ d, d < 7 → S 28 d ≤ 9) (hW : WF B N A) : WF B N (weaF N S A) := WF_wea (by have := hr (dN A % 7) (by omega); omega) hs hW
theorem wea_o {f j : Nat} (h : f ≠ 2) : weaF N S A f i j = A f i j := if_neg (fun z => h z.1)
theorem rst_o {d : Nat → Nat → Nat} {f j : Nat} {q : Nat × Nat × AF} (h9 : f ∉ [3, 4, 5, 6, 7, 8, 9, 10, 11, 12, 13, 16, 17]) : (rst d N S k q).2.2 f i j = q.2.2 f i j := by
  simp only [List.mem_cons, List.not_mem_nil, or_false, not_or] at h9
  unfold rst
  split
  · show au _ 3 _ 0 _ f i j = _
    rw [au_f (by simp [h9]), srv_o (by simp [h9])]
  · show au _ 4 _ 0 _ f i j = _
    rw [au_f (by simp [h9])]
theorem rnd_o {f j : Nat} (h9 : f ∉ [3, 4, 5, 6, 7, 8, 9, 10, 11, 12, 13, 16, 17]) : (rndF N S A k).2.2 f i j = A f i j := by
  induction k with
  | zero => rfl
  | succ k ih => exact (rst_o h9).trans ih
/-- what holds in the round -/
theorem rnd_inv (hn : N 0 ≤ 8 ∧ N 1 ≤ 16 ∧ N 2 ≤ 24 ∧ N 3 ≤ 10) (hs : S 29 0 ≤ 300) (hW : WF B N A) : ∀ k, k ≤ zN A → WF B N (rndF N S A k).2.2 ∧ (rndF N S A k).2.1 ≤ 300 ∧ ((rndF N S A k).1 = 0 ∨ (rndF N S A k).1 < N 0) ∧ ((rndF N S A k).2.1 = 0 → (rndF N S A k).1 = 0) := by
  intro k
  induction k with
  | zero => intro _; exact ⟨hW, Nat.zero_le _, Or.inl rfl, fun _ => rfl⟩
  | succ k ih =>
    intro hk
    obtain ⟨g1, g2, g3, g4⟩ := ih (by omega)
    have hz := (WF_zN hW hn.1).2.2 k (by omega)
    have e14 : hA (rndF N S A k).2.2 k = hA A k := by unfold hA; rw [rnd_o (by decide)]
    show WF B N (rst (dt N S A) N S k (rndF N S A k)).2.2 ∧ (rst (dt N S A) N S k (rndF N S A k)).2.1 ≤ 300 ∧ ((rst (dt N S A) N S k (rndF N S A k)).1 = 0 ∨ (rst (dt N S A) N S k (rndF N S A k)).1 < N 0) ∧ ((rst (dt N S A) N S k (rndF N S A k)).2.1 = 0 → (rst (dt N S A) N S k (rndF N S A k)).1 = 0)
    unfold rst
    rw [e14]
    split
    · refine ⟨WF_a3 hz.2 (WF_srv g1 hn.2.2.2 hn.2.2.1), ?_, Or.inr hz.2, fun z => ?_⟩
      · show (rndF N S A k).2.1 + _ + 5 ≤ 300
        omega
      · exact absurd (show (rndF N S A k).2.1 + _ + 5 = 0 from z) (by omega)
    · exact ⟨WF_a4 hz.2 g1, g2, g3, g4⟩
theorem day_o {f j : Nat} (h9 : f ∉ [0, 1, 2, 3, 4, 5, 6, 7, 8, 9, 10, 11, 12, 13, 16, 17]) : dayF N S A f i j = A f i j := by
  simp only [List.mem_cons, List.not_mem_nil, or_false, not_or] at h9
  unfold dayF goF
  rw [au_f (by simp [h9]), au_f (by simp [h9]), rnd_o (by simp [h9]), wea_o (by simp [h9])]
theorem WF_go (hn : N 0 ≤ 8 ∧ N 1 ≤ 16 ∧ N 2 ≤ 24 ∧ N 3 ≤ 10) (hs : S 29 0 ≤ 300) (hW : WF B N A) : WF B N (goF N S A) := WF_a1 (rnd_inv hn hs hW _ (Nat.le_refl _)).1
/-- the static numbers' bounds -/
def Sb (N : Nat → Nat) (S : Nat → Nat → Nat) : Prop := (N 0 ≤ 8 ∧ N 1 ≤ 16 ∧ N 2 ≤ 24 ∧ N 3 ≤ 10) ∧ S 29 0 ≤ 300 ∧ (∀ l, l < N 1 → S 23 l ≤ 9) ∧ (∀ d, d < 7 → S 28 d ≤ 9)
theorem Bs.sb (h : Bs N S ks V) : Sb N S := ⟨h.n, h.smin.2, fun l hl => (h.sln hl).2.2.2.2.2, fun d hd => h.srain hd⟩
theorem WF_day (hb : Sb N S) (hB : B < 2 ^ 31) (hW : WF B N A) : WF (B + 1) N (dayF N S A) := by
  have h1 := WF_dN hW hB
  have e : A 0 0 0 + 1 = nI (dN A + 1) := by rw [h1.1, nI_1]
  unfold dayF
  rw [e]
  exact WF_a0 (by omega) (WF_go hb.1 hb.2.1 (WF_weaF hb.2.2.1 hb.2.2.2 hW))
theorem WF_days (hb : Sb N S) (n : Nat) (hB : B + n < 2 ^ 31) (hW : WF B N A) : WF (B + n) N (daysF N S n A) := by
  induction n with
  | zero => exact hW
  | succ n ih => exact WF_day (B := B + n) hb (by omega) (ih (by omega))
theorem nI_xor7 {d : Nat} (hd : d < 2 ^ 31) : (0 : Int32) ≤ nI d ^^^ 7 := by
  have h : (nI d ^^^ 7).toBitVec.msb = false := by
    have h1 : (nI d).toBitVec.msb = false := by
      rw [BitVec.msb_eq_false_iff_two_mul_lt, pk_tn (by omega)]; omega
    rw [Int32.toBitVec_xor, BitVec.msb_xor, h1]
    decide
  refine Int32.le_iff_toInt_le.mpr ?_
  show (0 : Int32).toInt ≤ (nI d ^^^ 7).toBitVec.toInt
  rw [BitVec.toInt_eq_msb_cond, h]
  exact Int.natCast_nonneg _
end
