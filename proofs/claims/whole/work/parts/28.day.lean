/-! pure: a day -/
def dN (A : AF) : Nat := (A 0 0 0).toNatClampNeg
def zN (A : AF) : Nat := (A 15 0 0).toNatClampNeg
def hA (A : AF) (k : Nat) : Nat := (A 14 0 k).toNatClampNeg
def weaF (N : Nat → Nat) (S : Nat → Nat → Nat) (A : AF) : AF := weaA S (nI (S 28 (dN A % 7))) (N 1) A
def rst (d : Nat → Nat → Nat) (N : Nat → Nat) (S : Nat → Nat → Nat) (k : Nat) (q : Nat × Nat × AF) : Nat × Nat × AF :=
  if q.2.1 + d q.1 (hA q.2.2 k) + 5 + d (hA q.2.2 k) 0 ≤ S 29 0 then (hA q.2.2 k, q.2.1 + d q.1 (hA q.2.2 k) + 5, au (srvA N S (hA q.2.2 k) q.2.2) 3 (hA q.2.2 k) 0 (q.2.2 3 (hA q.2.2 k) 0 + 1))
  else (q.1, q.2.1, au q.2.2 4 (hA q.2.2 k) 0 (q.2.2 4 (hA q.2.2 k) 0 + 1))
def rndF (N : Nat → Nat) (S : Nat → Nat → Nat) (A : AF) (k : Nat) : Nat × Nat × AF := itn (rst (dt N S A) N S) k (0, 0, A)
def usdF (N : Nat → Nat) (S : Nat → Nat → Nat) (A : AF) : Nat := if (rndF N S A (zN A)).2.1 = 0 then 0 else (rndF N S A (zN A)).2.1 + dt N S A (rndF N S A (zN A)).1 0
def goF (N : Nat → Nat) (S : Nat → Nat → Nat) (A : AF) : AF := au (rndF N S A (zN A)).2.2 1 0 0 (nI (usdF N S A))
def dayF (N : Nat → Nat) (S : Nat → Nat → Nat) (A : AF) : AF := au (goF N S (weaF N S A)) 0 0 0 (A 0 0 0 + 1)
def daysF (N : Nat → Nat) (S : Nat → Nat → Nat) (n : Nat) (A : AF) : AF := itn (fun _ => dayF N S) n A
section
variable {B : Nat} {N : Nat → Nat} {S : Nat → Nat → Nat} {ks : List KY} {V X : VS} {w h b r i p q k n : Nat} {A : AF} {D : Nat → Int32} {x : Int32} {Q : Nat → Bool}
theorem bk_o {f j : Nat} (h : f ∉ [5, 6, 11, 13]) : bkA N A Q f i j = A f i j := by
  simp only [List.mem_cons, List.not_mem_nil, or_false, not_or] at h
  exact bkf ⟨h.1, h.2.1, h.2.2.1, h.2.2.2⟩
theorem lend_o {f j : Nat} (h : f ∉ [5, 6, 7, 10, 12, 13, 16, 17]) : lendA A r b f i j = A f i j := by
  simp only [List.mem_cons, List.not_mem_nil, or_false, not_or] at h
  obtain ⟨h5, h6, h7, h10, h12, h13, h16, h17⟩ := h
  unfold lendA
  rw [au_f h16, au_f h17, au_f h12, au_f h10, au_f h13, au_f h7, au_f h6, au_f h5]
theorem oth_o {f j : Nat} (h9 : f ∉ [5, 6, 7, 10, 12, 13, 16, 17]) : othS N S h r A f i j = A f i j := by
  unfold othS choA
  split
  · split
    · exact lend_o h9
    · rfl
  · rfl
/-- what serving leaves alone -/
theorem srv_o {f j : Nat} (h9 : f ∉ [5, 6, 7, 8, 9, 10, 11, 12, 13, 16, 17]) : srvA N S h A f i j = A f i j := by
  simp only [List.mem_cons, List.not_mem_nil, or_false, not_or] at h9
  have key : ∀ n, itn (othS N S h) n (rvAll N S h (bkAll N S h A)) f i j = A f i j := by
    intro n
    induction n with
    | zero =>
      show rvA N (bkA N A _) _ f i j = _
      rw [rvf (by simp [h9]), bk_o (by simp [h9])]
    | succ n ih =>
      show othS N S h n _ f i j = _
      rw [oth_o (by simp [h9])]; exact ih
  exact key _
theorem bk_au (hf : p = 1 ∨ p = 3) : bkA N (au A p i 0 x) Q = au (bkA N A Q) p i 0 x := by
  rcases hf with rfl | rfl
  · funext f i' j
    by_cases c : f = 1
    · subst c
      rw [bkf (by decide)]
      exact au_c (bkf (by decide)).symm rfl
    · have e : (au A 1 i 0 x) f i' j = A f i' j := au_f c
      rw [au_f c]
      unfold bkA
      rw [e]; rfl
  · funext f i' j
    by_cases c : f = 3
    · subst c
      rw [bkf (by decide)]
      exact au_c (bkf (by decide)).symm rfl
    · have e : (au A 3 i 0 x) f i' j = A f i' j := au_f c
      rw [au_f c]
      unfold bkA
      rw [e]; rfl
theorem rv_au (hf : p = 1 ∨ p = 3) : rvA N (au A p i 0 x) Q = au (rvA N A Q) p i 0 x := by
  rcases hf with rfl | rfl
  · funext f i' j
    by_cases c : f = 1
    · subst c
      rw [rvf (by decide)]
      exact au_c (rvf (by decide)).symm rfl
    · have e : (au A 1 i 0 x) f i' j = A f i' j := au_f c
      rw [au_f c]
      unfold rvA
      rw [e]; rfl
  · funext f i' j
    by_cases c : f = 3
    · subst c
      rw [rvf (by decide)]
      exact au_c (rvf (by decide)).symm rfl
    · have e : (au A 3 i 0 x) f i' j = A f i' j := au_f c
      rw [au_f c]
      unfold rvA
      rw [e]; rfl
theorem lend_au (hf : p = 1 ∨ p = 3) : lendA (au A p i 0 x) r b = au (lendA A r b) p i 0 x := by
  rcases hf with rfl | rfl
  · funext f i' j
    by_cases c : f = 1
    · subst c
      rw [lend_o (by decide)]
      exact au_c (lend_o (by decide)).symm rfl
    · have e : (au A 1 i 0 x) f i' j = A f i' j := au_f c
      rw [au_f c]
      unfold lendA
      exact au_c (au_c (au_c (au_c (au_c (au_c (au_c (au_c e rfl) rfl) rfl) rfl) rfl) rfl) rfl) rfl
  · funext f i' j
    by_cases c : f = 3
    · subst c
      rw [lend_o (by decide)]
      exact au_c (lend_o (by decide)).symm rfl
    · have e : (au A 3 i 0 x) f i' j = A f i' j := au_f c
      rw [au_f c]
      unfold lendA
      exact au_c (au_c (au_c (au_c (au_c (au_c (au_c (au_c e rfl) rfl) rfl) rfl) rfl) rfl) rfl) rfl
theorem oth_au (hf : p = 1 ∨ p = 3) : othS N S h r (au A p i 0 x) = au (othS N S h r A) p i 0 x := by
  have e1 : okc S (au A p i 0 x) r = okc S A r := by rcases hf with rfl | rfl <;> rfl
  have e2 : (au A p i 0 x) 13 r 0 = A 13 r 0 := by rcases hf with rfl | rfl <;> rfl
  unfold othS choA
  rw [e1, e2]
  split
  · split
    · exact lend_au hf
    · rfl
  · rfl
theorem rl_au (hf : p = 1 ∨ p = 3) (b r : Nat) : rl N S (au A p i 0 x) h b r = rl N S A h b r := by
  have e1 : can N S (au A p i 0 x) h = can N S A h := by rcases hf with rfl | rfl <;> rfl
  have e2 : fr (au A p i 0 x) = fr A := by rcases hf with rfl | rfl <;> rfl
  have e3 : hc (au A p i 0 x) = hc A := by rcases hf with rfl | rfl <;> rfl
  induction b with
  | zero => rfl
  | succ b ih =>
    show rl N S (au A p i 0 x) h b r + _ = rl N S A h b r + _
    rw [ih, e1, e2, e3]
theorem srv_au (hf : p = 1 ∨ p = 3) : srvA N S h (au A p i 0 x) = au (srvA N S h A) p i 0 x := by
  have e1 : due N S (au A p i 0 x) h = due N S A h := by rcases hf with rfl | rfl <;> rfl
  have eb : bkAll N S h (au A p i 0 x) = au (bkAll N S h A) p i 0 x := by
    unfold bkAll
    rw [e1]; exact bk_au hf
  have el : ∀ A, Lb N S (au A p i 0 x) h = Lb N S A h := by
    intro A
    funext b
    have e1 : can N S (au A p i 0 x) h b = can N S A h b := by rcases hf with rfl | rfl <;> rfl
    have e2 : fr (au A p i 0 x) b = fr A b := by rcases hf with rfl | rfl <;> rfl
    have e3 : hc (au A p i 0 x) (fr A b) = hc A (fr A b) := by rcases hf with rfl | rfl <;> rfl
    unfold Lb
    rw [e1, e2, e3, rl_au hf]
  have er : rvAll N S h (au (bkAll N S h A) p i 0 x) = au (rvAll N S h (bkAll N S h A)) p i 0 x := by
    unfold rvAll
    rw [el]; exact rv_au hf
  have key : ∀ n, itn (othS N S h) n (au (rvAll N S h (bkAll N S h A)) p i 0 x) = au (itn (othS N S h) n (rvAll N S h (bkAll N S h A))) p i 0 x := by
    intro n
    induction n with
    | zero => rfl
    | succ n ih =>
      show othS N S h n (itn (othS N S h) n (au (rvAll N S h (bkAll N S h A)) p i 0 x)) = au (othS N S h n _) p i 0 x
      rw [ih, oth_au hf]
  unfold srvA
  rw [eb, er, key]
theorem WF_a3 (hh : h < N 0) (hW : WF B N A) : WF B N (au A 3 h 0 x) := by
  obtain ⟨h1, h2, h3, h4, h5, h6, h7, h8⟩ := hW
  refine ⟨h1, h2, h3, h4, h5, h6, h7, h8.1, fun i hi => ⟨?_, (h8.2.1 i hi).2⟩, h8.2.2⟩
  rw [au_i (by omega)]; exact (h8.2.1 i hi).1
theorem WF_a4 (hh : h < N 0) (hW : WF B N A) : WF B N (au A 4 h 0 x) := by
  obtain ⟨h1, h2, h3, h4, h5, h6, h7, h8⟩ := hW
  refine ⟨h1, h2, h3, h4, h5, h6, h7, h8.1, fun i hi => ⟨(h8.2.1 i hi).1, ?_⟩, h8.2.2⟩
  rw [au_i (by omega)]; exact (h8.2.1 i hi).2
theorem WF_a1 (hW : WF B N A) : WF B N (au A 1 0 0 x) := hW
theorem WF_a0 {B' d : Nat} (hd : d ≤ B') (hW : WF B N A) : WF B' N (au A 0 0 0 (nI d)) := ⟨⟨d, hd, au_at⟩, hW.2⟩
theorem WF_dN (hW : WF B N A) (hB : B < 2 ^ 31) : A 0 0 0 = nI (dN A) ∧ dN A ≤ B := by
  obtain ⟨d, hd, e⟩ := hW.1
  have : dN A = d := by unfold dN; rw [e]; exact nI_clamp (by omega)
  rw [this]; exact ⟨e, hd⟩
theorem WF_zN (hW : WF B N A) : A 15 0 0 = nI (zN A) ∧ zN A ≤ 8 ∧ ∀ j, j < zN A → A 14 0 j = nI (hA A j) ∧ hA A j < N 0 := by
  obtain ⟨z, hz, e, g⟩ := hW.2.2.1
  have : zN A = z := by unfold zN; rw [e]; exact nI_clamp (by omega)
  rw [this]
  refine ⟨e, hz, fun j hj => ?_⟩
  obtain ⟨h, hh, e2⟩ := g j hj
  sorry
end
