/-! the class's answers, by what is asked -/
section
variable {B : Nat} {N : Nat → Nat} {S : Nat → Nat → Nat} {ks : List KY} {V X : VS} {w h l b r i p q k n c a : Nat} {A : AF} {D : Nat → Int32} {x : Int32}
theorem nI_is {a c : Nat} {x : Int32} (ha : a < 2 ^ 31) (hc : c < 2 ^ 31) (hx : x = nI c) (h : nI a = x) : a = c := nI_inj ha hc (h.trans hx)
theorem nI_out {a c : Nat} (ha : a < 2 ^ 31) (h : (nI a).toInt < 0 ∨ (c : Int) < (nI a).toInt) : c < a := by
  rw [nI_toInt ha] at h
  omega
theorem t_haltAns {post : Int32 → VS → Prop} (hB : Bs N S ks V) (hw : w ≤ 1) (hW : WF B N A) (hh : h < N 0) (ha : a < 5) (hp : post (ansH N S A h a) (cput N w A D V)) : wp_X7_haltAnswer ks w (nI h) (nI a) (cput N w A D V) post := by
  have hn := hB.n
  have hX : Bs N S ks (cput N w A D V) := hB.c
  refine ⟨fun z => absurd z (nI_pos (by omega)), fun _ => ⟨hX.k1 hw, hX.k2 hw (by decide), ?_⟩⟩
  have hsz := hX.sz hw (K := 0) (by decide)
  rw [hsz]
  refine pk_lt h (N 0) (fun _ => ?_) (fun z => absurd hh (by omega))
  rw [← hsz]
  refine lget hX hw (by decide) hh ⟨hX.k4 hw hh, fun z => ?_, fun z => ?_, fun z => ⟨hX.k12 hw, ?_⟩, fun z => ?_, fun z => ?_⟩
  · obtain rfl := nI_is (c := 0) (by omega) (by decide) rfl z
    exact t_readersAt hX hw (by omega) hp
  · obtain rfl := nI_is (c := 1) (by omega) (by decide) rfl z
    exact t_lanesAt hX hw (by omega) hp
  · obtain rfl := nI_is (c := 2) (by omega) (by decide) rfl z
    exact t_timesOf hB hw hW hp
  · obtain rfl := nI_is (c := 3) (by omega) (by decide) rfl z
    rw [cr3 hh]; exact hp
  · have := nI_out (c := 3) (by omega) z
    obtain rfl : a = 4 := by omega
    rw [cr4 hh]; exact hp
theorem t_laneAns {post : Int32 → VS → Prop} (hB : Bs N S ks V) (hw : w ≤ 1) (hW : WF B N A) (hl : l < N 1) (ha : a < 6) (hp : post (ansL S A l a) (cput N w A D V)) : wp_X7_laneAnswer ks w (nI l) (nI a) (cput N w A D V) post := by
  have hn := hB.n
  have hX : Bs N S ks (cput N w A D V) := hB.c
  refine ⟨fun z => absurd z (nI_pos (by omega)), fun _ => ⟨hX.k1 hw, hX.k2 hw (by decide), ?_⟩⟩
  have hsz := hX.sz hw (K := 1) (by decide)
  rw [hsz]
  refine pk_lt l (N 1) (fun _ => ?_) (fun z => absurd hl (by omega))
  rw [← hsz]
  have hln := hX.ln hw hl
  refine lget hX hw (by decide) hl ⟨hX.k5 hw hl, fun z => ?_, fun z => ?_, fun z => ?_, fun z => ?_, fun z => ?_, fun z => ?_⟩
  · obtain rfl := nI_is (c := 0) (by omega) (by decide) rfl z
    rw [hln.1]; exact hp
  · obtain rfl := nI_is (c := 1) (by omega) (by decide) rfl z
    rw [hln.2.1]; exact hp
  · obtain rfl := nI_is (c := 2) (by omega) (by decide) rfl z
    rw [hln.2.2.1]; exact hp
  · obtain rfl := nI_is (c := 3) (by omega) (by decide) rfl z
    rw [hln.2.2.2]; exact hp
  · obtain rfl := nI_is (c := 4) (by omega) (by decide) rfl z
    rw [cr2 hl]; exact hp
  · have := nI_out (c := 4) (by omega) z
    obtain rfl : a = 5 := by omega
    have hp : post (if useL A l = true then nI (cst S A l) else -1) (cput N w A D V) := hp
    have hmd := m_mud hW.2.1 hl
    refine t_usable hB hw hW.2.1 hl (fun c => ⟨fun _ => ?_, fun z => absurd rfl z⟩) (fun c => ⟨fun z => absurd z (by decide), fun _ => ⟨hX.k5 hw hl, ?_⟩⟩)
    · rw [if_neg (by rw [c]; decide)] at hp; exact hp
    · rw [if_pos c] at hp
      rw [hln.2.2.1, cr2 hl, m_cst hmd.1 hmd.2]; exact hp
theorem t_bookAns {post : Int32 → VS → Prop} (hB : Bs N S ks V) (hw : w ≤ 1) (hW : WF B N A) (hb : b < N 2) (ha : a < 7) (hp : post (ansB N S A b a) (cput N w A D V)) : wp_X7_bookAnswer ks w (nI b) (nI a) (cput N w A D V) post := by
  have hn := hB.n
  have hX : Bs N S ks (cput N w A D V) := hB.c
  refine ⟨fun z => absurd z (nI_pos (by omega)), fun _ => ⟨hX.k1 hw, hX.k2 hw (by decide), ?_⟩⟩
  have hsz := hX.sz hw (K := 2) (by decide)
  rw [hsz]
  refine pk_lt b (N 2) (fun _ => ?_) (fun z => absurd hb (by omega))
  rw [← hsz]
  have hq8 := WF_q hW hn.2.2.2 hb
  refine lget hX hw (by decide) hb ⟨hX.k6 hw hb, fun z => ?_, fun z => ?_, fun z => ?_, fun z => ⟨hX.k8 hw hb, ?_⟩, fun z => ⟨hX.k8 hw hb, ?_⟩, fun z => ?_, fun z => ?_⟩
  · obtain rfl := nI_is (c := 0) (by omega) (by decide) rfl z
    rw [(hX.bk hw hb).2]; exact hp
  · obtain rfl := nI_is (c := 1) (by omega) (by decide) rfl z
    rw [cr5 hb]; exact hp
  · obtain rfl := nI_is (c := 2) (by omega) (by decide) rfl z
    rw [cr6 hb]; exact hp
  · obtain rfl := nI_is (c := 3) (by omega) (by decide) rfl z
    exact t_size hB hw hb hp
  · obtain rfl := nI_is (c := 4) (by omega) (by decide) rfl z
    exact t_first hB hw hb hq8.1 (by omega) hp
  · obtain rfl := nI_is (c := 5) (by omega) (by decide) rfl z
    rw [cr7 hb]; exact hp
  · have := nI_out (c := 5) (by omega) z
    obtain rfl : a = 6 := by omega
    exact t_whoRead hB hw hp
theorem t_readerAns {post : Int32 → VS → Prop} (hB : Bs N S ks V) (hw : w ≤ 1) (hW : WF B N A) (hr : r < N 3) (ha : a < 8) (hp : post (ansR N S A r a) (cput N w A D V)) : wp_X7_readerAnswer ks w (nI r) (nI a) (cput N w A D V) post := by
  have hn := hB.n
  have hX : Bs N S ks (cput N w A D V) := hB.c
  refine ⟨fun z => absurd z (nI_pos (by omega)), fun _ => ⟨hX.k1 hw, hX.k2 hw (by decide), ?_⟩⟩
  have hsz := hX.sz hw (K := 3) (by decide)
  rw [hsz]
  refine pk_lt r (N 3) (fun _ => ?_) (fun z => absurd hr (by omega))
  rw [← hsz]
  have hrd := hX.rd hw hr
  refine lget hX hw (by decide) hr ⟨hX.k7 hw hr, fun z => ?_, fun z => ?_, fun z => ?_, fun z => ?_, fun z => ?_, fun z => ?_, fun z => ?_, fun z => ?_⟩
  · obtain rfl := nI_is (c := 0) (by omega) (by decide) rfl z
    rw [hrd.2.1]; exact hp
  · obtain rfl := nI_is (c := 1) (by omega) (by decide) rfl z
    rw [hrd.2.2.1]; exact hp
  · obtain rfl := nI_is (c := 2) (by omega) (by decide) rfl z
    rw [hrd.2.2.2]; exact hp
  · obtain rfl := nI_is (c := 3) (by omega) (by decide) rfl z
    rw [cr13 hr]; exact hp
  · obtain rfl := nI_is (c := 4) (by omega) (by decide) rfl z
    rw [cr10 hr]; exact t_bits hp
  · obtain rfl := nI_is (c := 5) (by omega) (by decide) rfl z
    rw [cr11 hr]; exact hp
  · obtain rfl := nI_is (c := 6) (by omega) (by decide) rfl z
    exact t_reservedBy hB hw hW hp
  · have := nI_out (c := 6) (by omega) z
    obtain rfl : a = 7 := by omega
    rw [cr12 hr]; exact hp
theorem t_countAns {post : Int32 → VS → Prop} (hB : Bs N S ks V) (hw : w ≤ 1) (hW : WF B N A) (ha : a < 10) (hp : post (ansC N A a) (cput N w A D V)) : wp_X7_countAnswer ks w (nI a) (cput N w A D V) post := by
  have hn := hB.n
  have hX : Bs N S ks (cput N w A D V) := hB.c
  refine ⟨fun z => ⟨hX.k1 hw, ?_⟩, fun z => ⟨hX.k1 hw, hX.k2 hw (by decide), ?_⟩, fun z => ⟨hX.k1 hw, hX.k2 hw (by decide), ?_⟩, fun z => ⟨hX.k1 hw, hX.k2 hw (by decide), ?_⟩, fun z => ⟨hX.k1 hw, hX.k2 hw (by decide), ?_⟩, fun z => ⟨hX.k1 hw, ?_⟩, fun z => ⟨hX.k1 hw, ?_⟩, fun z => ⟨hX.k1 hw, ?_⟩, fun z => ⟨hX.k1 hw, ?_⟩, fun z => ⟨hX.k1 hw, ?_⟩⟩
  · obtain rfl := nI_is (c := 0) (by omega) (by decide) rfl z
    rw [cr0]; exact hp
  · obtain rfl := nI_is (c := 1) (by omega) (by decide) rfl z
    rw [hX.sz hw (by decide)]; exact hp
  · obtain rfl := nI_is (c := 2) (by omega) (by decide) rfl z
    rw [hX.sz hw (by decide)]; exact hp
  · obtain rfl := nI_is (c := 3) (by omega) (by decide) rfl z
    rw [hX.sz hw (by decide)]; exact hp
  · obtain rfl := nI_is (c := 4) (by omega) (by decide) rfl z
    rw [hX.sz hw (by decide)]; exact hp
  · obtain rfl := nI_is (c := 5) (by omega) (by decide) rfl z
    exact t_booksOnVan hB hw hp
  · obtain rfl := nI_is (c := 6) (by omega) (by decide) rfl z
    exact t_loans hB hw hp
  · obtain rfl := nI_is (c := 7) (by omega) (by decide) rfl z
    exact t_pence hB hw hp
  · obtain rfl := nI_is (c := 8) (by omega) (by decide) rfl z
    exact t_muddy hB hw hW.2.1 hp
  · have := nI_out (c := 8) (by omega) z
    obtain rfl : a = 9 := by omega
    rw [cr1]; exact hp
end
