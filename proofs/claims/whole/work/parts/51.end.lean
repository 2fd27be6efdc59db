/-! the beginning and the whole -/
section
variable {B : Nat} {N : Nat → Nat} {S : Nat → Nat → Nat} {ks : List KY} {V : VS} {k : Nat} {A : AF}
theorem V0_0 {k w i f j : Nat} (h : ¬ ((k = 12 ∧ f = 2) ∨ (k = 15 ∧ f = 5))) : V0 k w i f j = 0 := if_neg h
theorem ks0_live (x : KY) : x ∈ ks0 ↔ live (fun _ => 0) x = true := by
  constructor
  · intro h
    have key : ∀ y ∈ ks0, live (fun _ => 0) y = true := by decide +kernel
    exact key x h
  · intro h
    obtain ⟨k, w, i⟩ := x
    have h2 : k < 35 ∧ w ≤ 1 ∧ i ≤ 3 := by
      unfold live at h
      split at h <;> · have h := of_decide_eq_true h; dsimp only at h; omega
    have key : ∀ k, k < 35 → ∀ w, w < 2 → ∀ i, i < 4 → live (fun _ => 0) (k, w, i) = true → ks0.any (fun y => y.1 == k && y.2.1 == w && y.2.2 == i) = true := by decide +kernel
    obtain ⟨⟨a, b, c⟩, hm, he⟩ := List.any_eq_true.mp (key k h2.1 w (by omega) i (by omega) h)
    simp only [Bool.and_eq_true, beq_iff_eq] at he
    obtain ⟨⟨rfl, rfl⟩, rfl⟩ := he
    exact hm
theorem inv0 : Inv 0 ks0 V0 := by
  refine ⟨fun _ => 0, fun f _ => if f = 29 then 120 else 0, fun _ _ _ => 0, ⟨⟨by decide, by decide, by decide, by decide⟩, ks0_live, fun w K _ _ => V0_0 (by omega), ⟨V0_0 (by decide), V0_0 (by decide), V0_0 (by decide), V0_0 (by decide)⟩, fun w i _ hi => absurd hi (Nat.not_lt_zero _), fun w i _ hi => absurd hi (Nat.not_lt_zero _), fun w i _ hi => absurd hi (Nat.not_lt_zero _), fun i hi => absurd hi (Nat.not_lt_zero _), fun i hi => absurd hi (Nat.not_lt_zero _), fun i hi => absurd hi (Nat.not_lt_zero _), ⟨fun d _ => ⟨V0_0 (by decide), V0_0 (by decide)⟩, rfl, rfl⟩, fun i hi => absurd hi (Nat.not_lt_zero _), fun i hi => absurd hi (Nat.not_lt_zero _), fun i hi => absurd hi (Nat.not_lt_zero _), fun d _ => Nat.zero_le 9, by decide, by decide⟩, ?_, fun k i f j hf _ => V0_0 (fun z => ?_), fun k f j hf _ => V0_0 (fun z => ?_)⟩
  · exact ⟨⟨0, Nat.le_refl _, rfl⟩, fun i hi => absurd hi (Nat.not_lt_zero _), ⟨0, by decide, rfl, fun j hj => absurd hj (Nat.not_lt_zero _)⟩, fun b hb => absurd hb (Nat.not_lt_zero _), fun b hb => absurd hb (Nat.not_lt_zero _), fun r hr => absurd hr (Nat.not_lt_zero _), rfl, fun i _ => rfl, fun i _ => ⟨rfl, rfl⟩, fun b _ => ⟨rfl, rfl, fun _ _ => rfl⟩, fun r _ => ⟨rfl, rfl, rfl⟩⟩
  · have := cfld_low hf
    omega
  · have := mfld_high hf
    omega
theorem inv_step : ∀ (k : Nat) (ks : List KY) (V : VS), k < 512 → Inv k ks V → ∀ op a1 a2 a3 a4 : Int32, spAll (Inv (k + 1)) ks V op a1 a2 a3 a4 := by
  intro k ks V hk hInv op a1 a2 a3 a4
  have hs := Inv_s hInv
  obtain ⟨N, S, A, hI⟩ := hInv
  have h1 : 60 * k ≤ 60 * (k + 1) := by omega
  have h2 : 60 * k < 2 ^ 30 := by omega
  exact ⟨fun _ => o_addHalt hI h1, fun _ => o_addLane hI h1, fun _ => o_setRain hI h1, fun _ => o_setRound hI h1, fun _ => o_halt hI h1, fun _ => o_lane hI h1, fun _ => o_way hI h1, fun _ => o_addBook hI h1, fun _ => o_addReader hI h1, fun _ => o_reserve hI h1, fun _ => o_cancel hI h1, fun _ => o_book hI h1, fun _ => o_reader hI h1, fun _ => o_pay hI h1, fun _ => o_pass hI (by omega) h2, fun _ => o_count hI h1, fun _ => o_foresee hI h1 h2, fun _ => o_gets hI h1 h2, fun _ => o_advise hI h1 h2, fun _ => o_daily hI h1 (by omega), fun _ => o_digest hI h1, hs⟩
end
