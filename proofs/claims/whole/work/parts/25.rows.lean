/-! pure: each field read and written, in class and model -/
section
variable {N : Nat → Nat} {w t : Nat} {A : AF} {D T : Nat → Int32} {V : VS} {i j : Nat} {x : Int32}
theorem cr0 : cput N w A D V 1 w 0 7 0 = A 0 0 0 := cput_r (by decide) rfl (rfl)
theorem cw0 : vup (cput N w A D V) 1 w 0 7 0 x = cput N w (au A 0 0 0 x) D V := cput_w (by decide) rfl (rfl)
theorem cr1 : cput N w A D V 1 w 0 8 0 = A 1 0 0 := cput_r (by decide) rfl (rfl)
theorem cw1 : vup (cput N w A D V) 1 w 0 8 0 x = cput N w (au A 1 0 0 x) D V := cput_w (by decide) rfl (rfl)
theorem cr2 (hi : i < N 1) : cput N w A D V 5 w i 4 0 = A 2 i 0 := cput_r (by decide) rfl (decide_eq_true ⟨hi, rfl⟩)
theorem cw2 (hi : i < N 1) : vup (cput N w A D V) 5 w i 4 0 x = cput N w (au A 2 i 0 x) D V := cput_w (by decide) rfl (decide_eq_true ⟨hi, rfl⟩)
theorem cr3 (hi : i < N 0) : cput N w A D V 4 w i 0 0 = A 3 i 0 := cput_r (by decide) rfl (decide_eq_true ⟨hi, rfl⟩)
theorem cw3 (hi : i < N 0) : vup (cput N w A D V) 4 w i 0 0 x = cput N w (au A 3 i 0 x) D V := cput_w (by decide) rfl (decide_eq_true ⟨hi, rfl⟩)
theorem cr4 (hi : i < N 0) : cput N w A D V 4 w i 1 0 = A 4 i 0 := cput_r (by decide) rfl (decide_eq_true ⟨hi, rfl⟩)
theorem cw4 (hi : i < N 0) : vup (cput N w A D V) 4 w i 1 0 x = cput N w (au A 4 i 0 x) D V := cput_w (by decide) rfl (decide_eq_true ⟨hi, rfl⟩)
theorem cr5 (hi : i < N 2) : cput N w A D V 6 w i 3 0 = A 5 i 0 := cput_r (by decide) rfl (decide_eq_true ⟨hi, rfl⟩)
theorem cw5 (hi : i < N 2) : vup (cput N w A D V) 6 w i 3 0 x = cput N w (au A 5 i 0 x) D V := cput_w (by decide) rfl (decide_eq_true ⟨hi, rfl⟩)
theorem cr6 (hi : i < N 2) : cput N w A D V 6 w i 4 0 = A 6 i 0 := cput_r (by decide) rfl (decide_eq_true ⟨hi, rfl⟩)
theorem cw6 (hi : i < N 2) : vup (cput N w A D V) 6 w i 4 0 x = cput N w (au A 6 i 0 x) D V := cput_w (by decide) rfl (decide_eq_true ⟨hi, rfl⟩)
theorem cr7 (hi : i < N 2) : cput N w A D V 6 w i 5 0 = A 7 i 0 := cput_r (by decide) rfl (decide_eq_true ⟨hi, rfl⟩)
theorem cw7 (hi : i < N 2) : vup (cput N w A D V) 6 w i 5 0 x = cput N w (au A 7 i 0 x) D V := cput_w (by decide) rfl (decide_eq_true ⟨hi, rfl⟩)
theorem cr8 (hi : i < N 2) : cput N w A D V 8 w i 1 0 = A 8 i 0 := cput_r (by decide) rfl (decide_eq_true ⟨hi, rfl⟩)
theorem cw8 (hi : i < N 2) : vup (cput N w A D V) 8 w i 1 0 x = cput N w (au A 8 i 0 x) D V := cput_w (by decide) rfl (decide_eq_true ⟨hi, rfl⟩)
theorem cr9 (hi : i < N 2) (hj : j < 10) : cput N w A D V 9 w i 0 j = A 9 i j := cput_r (by decide) rfl (decide_eq_true ⟨hi, hj⟩)
theorem cw9 (hi : i < N 2) (hj : j < 10) : vup (cput N w A D V) 9 w i 0 j x = cput N w (au A 9 i j x) D V := cput_w (by decide) rfl (decide_eq_true ⟨hi, hj⟩)
theorem cr10 (hi : i < N 3) : cput N w A D V 7 w i 5 0 = A 10 i 0 := cput_r (by decide) rfl (decide_eq_true ⟨hi, rfl⟩)
theorem cw10 (hi : i < N 3) : vup (cput N w A D V) 7 w i 5 0 x = cput N w (au A 10 i 0 x) D V := cput_w (by decide) rfl (decide_eq_true ⟨hi, rfl⟩)
theorem cr11 (hi : i < N 3) : cput N w A D V 7 w i 6 0 = A 11 i 0 := cput_r (by decide) rfl (decide_eq_true ⟨hi, rfl⟩)
theorem cw11 (hi : i < N 3) : vup (cput N w A D V) 7 w i 6 0 x = cput N w (au A 11 i 0 x) D V := cput_w (by decide) rfl (decide_eq_true ⟨hi, rfl⟩)
theorem cr12 (hi : i < N 3) : cput N w A D V 7 w i 7 0 = A 12 i 0 := cput_r (by decide) rfl (decide_eq_true ⟨hi, rfl⟩)
theorem cw12 (hi : i < N 3) : vup (cput N w A D V) 7 w i 7 0 x = cput N w (au A 12 i 0 x) D V := cput_w (by decide) rfl (decide_eq_true ⟨hi, rfl⟩)
theorem cr13 (hi : i < N 3) : cput N w A D V 7 w i 4 0 = A 13 i 0 := cput_r (by decide) rfl (decide_eq_true ⟨hi, rfl⟩)
theorem cw13 (hi : i < N 3) : vup (cput N w A D V) 7 w i 4 0 x = cput N w (au A 13 i 0 x) D V := cput_w (by decide) rfl (decide_eq_true ⟨hi, rfl⟩)
theorem cr14 (hj : j < 8) : cput N w A D V 13 w 0 0 j = A 14 0 j := cput_r (by decide) rfl (decide_eq_true (show (0 : Nat) = 0 ∧ j < 8 from ⟨rfl, hj⟩))
theorem cw14 (hj : j < 8) : vup (cput N w A D V) 13 w 0 0 j x = cput N w (au A 14 0 j x) D V := cput_w (by decide) rfl (decide_eq_true (show (0 : Nat) = 0 ∧ j < 8 from ⟨rfl, hj⟩))
theorem cr15 : cput N w A D V 12 w 0 1 0 = A 15 0 0 := cput_r (by decide) rfl (rfl)
theorem cw15 : vup (cput N w A D V) 12 w 0 1 0 x = cput N w (au A 15 0 0 x) D V := cput_w (by decide) rfl (rfl)
theorem mr0 : mput t A T V 16 t 0 0 0 = A 0 0 0 := mput_r (by decide) rfl rfl rfl rfl
theorem mw0 : vup (mput t A T V) 16 t 0 0 0 x = mput t (au A 0 0 0 x) T V := mput_w (by decide) rfl rfl rfl rfl
theorem mr1 : mput t A T V 16 t 0 1 0 = A 1 0 0 := mput_r (by decide) rfl rfl rfl rfl
theorem mw1 : vup (mput t A T V) 16 t 0 1 0 x = mput t (au A 1 0 0 x) T V := mput_w (by decide) rfl rfl rfl rfl
theorem mr2 (hi : i < 16) : mput t A T V 22 t 0 0 i = A 2 i 0 := mput_r (by decide) rfl (decide_eq_true (Or.inr hi)) rfl rfl
theorem mw2 (hi : i < 16) : vup (mput t A T V) 22 t 0 0 i x = mput t (au A 2 i 0 x) T V := mput_w (by decide) rfl (decide_eq_true (Or.inr hi)) rfl rfl
theorem mr3 (hi : i < 8) : mput t A T V 24 t 0 0 i = A 3 i 0 := mput_r (by decide) rfl (decide_eq_true (Or.inr hi)) rfl rfl
theorem mw3 (hi : i < 8) : vup (mput t A T V) 24 t 0 0 i x = mput t (au A 3 i 0 x) T V := mput_w (by decide) rfl (decide_eq_true (Or.inr hi)) rfl rfl
theorem mr4 (hi : i < 8) : mput t A T V 25 t 0 0 i = A 4 i 0 := mput_r (by decide) rfl (decide_eq_true (Or.inr hi)) rfl rfl
theorem mw4 (hi : i < 8) : vup (mput t A T V) 25 t 0 0 i x = mput t (au A 4 i 0 x) T V := mput_w (by decide) rfl (decide_eq_true (Or.inr hi)) rfl rfl
theorem mr5 (hi : i < 24) : mput t A T V 26 t 0 0 i = A 5 i 0 := mput_r (by decide) rfl (decide_eq_true (Or.inr hi)) rfl rfl
theorem mw5 (hi : i < 24) : vup (mput t A T V) 26 t 0 0 i x = mput t (au A 5 i 0 x) T V := mput_w (by decide) rfl (decide_eq_true (Or.inr hi)) rfl rfl
theorem mr7 (hi : i < 24) : mput t A T V 28 t 0 0 i = A 7 i 0 := mput_r (by decide) rfl (decide_eq_true (Or.inr hi)) rfl rfl
theorem mw7 (hi : i < 24) : vup (mput t A T V) 28 t 0 0 i x = mput t (au A 7 i 0 x) T V := mput_w (by decide) rfl (decide_eq_true (Or.inr hi)) rfl rfl
theorem mr8 (hi : i < 24) : mput t A T V 30 t 0 0 i = A 8 i 0 := mput_r (by decide) rfl (decide_eq_true (Or.inr hi)) rfl rfl
theorem mw8 (hi : i < 24) : vup (mput t A T V) 30 t 0 0 i x = mput t (au A 8 i 0 x) T V := mput_w (by decide) rfl (decide_eq_true (Or.inr hi)) rfl rfl
theorem mr9 (hi : i < 24) (hj : j < 10) : mput t A T V 29 t 0 0 (10 * i + j) = A 9 i j := mput_r (by decide) rfl (decide_eq_true (Or.inr (show 10 * i + j < 240 by omega))) (show (10 * i + j) / 10 = i by omega) (show (10 * i + j) % 10 = j by omega)
theorem mw9 (hi : i < 24) (hj : j < 10) : vup (mput t A T V) 29 t 0 0 (10 * i + j) x = mput t (au A 9 i j x) T V := mput_w (by decide) rfl (decide_eq_true (Or.inr (show 10 * i + j < 240 by omega))) (show (10 * i + j) / 10 = i by omega) (show (10 * i + j) % 10 = j by omega)
theorem mr10 (hi : i < 10) : mput t A T V 31 t 0 0 i = A 10 i 0 := mput_r (by decide) rfl (decide_eq_true (Or.inr hi)) rfl rfl
theorem mw10 (hi : i < 10) : vup (mput t A T V) 31 t 0 0 i x = mput t (au A 10 i 0 x) T V := mput_w (by decide) rfl (decide_eq_true (Or.inr hi)) rfl rfl
theorem mr11 (hi : i < 10) : mput t A T V 32 t 0 0 i = A 11 i 0 := mput_r (by decide) rfl (decide_eq_true (Or.inr hi)) rfl rfl
theorem mw11 (hi : i < 10) : vup (mput t A T V) 32 t 0 0 i x = mput t (au A 11 i 0 x) T V := mput_w (by decide) rfl (decide_eq_true (Or.inr hi)) rfl rfl
theorem mr12 (hi : i < 10) : mput t A T V 33 t 0 0 i = A 12 i 0 := mput_r (by decide) rfl (decide_eq_true (Or.inr hi)) rfl rfl
theorem mw12 (hi : i < 10) : vup (mput t A T V) 33 t 0 0 i x = mput t (au A 12 i 0 x) T V := mput_w (by decide) rfl (decide_eq_true (Or.inr hi)) rfl rfl
theorem mr14 (hj : j < 8) : mput t A T V 23 t 0 0 j = A 14 0 j := mput_r (by decide) rfl (decide_eq_true (Or.inr hj)) rfl rfl
theorem mw14 (hj : j < 8) : vup (mput t A T V) 23 t 0 0 j x = mput t (au A 14 0 j x) T V := mput_w (by decide) rfl (decide_eq_true (Or.inr hj)) rfl rfl
theorem mr15 : mput t A T V 16 t 0 5 0 = A 15 0 0 := mput_r (by decide) rfl rfl rfl rfl
theorem mw15 : vup (mput t A T V) 16 t 0 5 0 x = mput t (au A 15 0 0 x) T V := mput_w (by decide) rfl rfl rfl rfl
theorem mr16 : mput t A T V 16 t 0 2 0 = A 16 0 0 := mput_r (by decide) rfl rfl rfl rfl
theorem mw16 : vup (mput t A T V) 16 t 0 2 0 x = mput t (au A 16 0 0 x) T V := mput_w (by decide) rfl rfl rfl rfl
theorem mr17 (hi : i < 24) : mput t A T V 27 t 0 0 i = A 17 i 0 := mput_r (by decide) rfl (decide_eq_true (Or.inr hi)) rfl rfl
theorem mw17 (hi : i < 24) : vup (mput t A T V) 27 t 0 0 i x = mput t (au A 17 i 0 x) T V := mput_w (by decide) rfl (decide_eq_true (Or.inr hi)) rfl rfl
end
