/-! The pure part: the abstract state, the class's relation to it -/
abbrev az : Type := (Nat → Nat → Int32) × az_q × az_f
def an (A : az) (j x : Nat) (v : Int32) : az := (u2 A.1 j x v, A.2)
def aq (A : az) (b x : Nat) (l : List (Int32 × Int32)) : az := (A.1, u2 A.2.1 b x l, A.2.2)
def af (A : az) (r : Nat) (l : List (List Int32)) : az := (A.1, A.2.1, u1 A.2.2 r l)
/-- a flow's slots, a side's slots: which number of the state they hold -/
def fm : Nat → Nat
  | 3 => 6 | 4 => 10 | 5 => 8 | 6 => 9 | 7 => 11 | 8 => 12 | 9 => 7 | 10 => 13 | 11 => 14 | 12 => 15 | _ => 99
def gm : Nat → Nat
  | 5 => 28 | 6 => 29 | 7 => 30 | 8 => 31 | 9 => 32 | 10 => 37 | 11 => 33 | 12 => 34 | 13 => 35 | 14 => 36 | _ => 98
theorem fm_inj : ∀ j, j < 13 → ∀ i, i < 13 → 3 ≤ j → 3 ≤ i → fm i = fm j → i = j := by decide
theorem gm_inj : ∀ j, j < 15 → ∀ i, i < 15 → 5 ≤ j → 5 ≤ i → gm i = gm j → i = j := by decide
theorem fm_le : ∀ j, j < 13 → 3 ≤ j → fm j < 16 := by decide
theorem gm_ge : ∀ j, j < 15 → 5 ≤ j → 28 ≤ gm j := by decide
def cF (P : az_P) (f n : Nat → Nat → Int32) : Prop := (∀ w, f w 2 = nI (P 5)) ∧ ∀ w j, 3 ≤ j → j < 13 → f w j = n (fm j) w
def cS (g n : Nat → Nat → Int32) : Prop := ∀ s j, 5 ≤ j → j < 15 → g s j = n (gm j) s
theorem cF_up {P : az_P} {f n : Nat → Nat → Int32} (h : cF P f n) (w : Nat) {j : Nat} (v : Int32) (h3 : 3 ≤ j) (h13 : j < 13) : cF P (u2 f w j v) (u2 n (fm j) w v) := by
  refine ⟨fun w' => ?_, fun w' i hi hi2 => ?_⟩
  · rw [u2_n _ _ (fun z => absurd z.2 (by omega))]
    exact h.1 w'
  · by_cases hw : w' = w ∧ i = j
    · rw [hw.1, hw.2, u2_s, u2_s]
    · rw [u2_n _ _ hw, u2_n _ _ (fun z => hw ⟨z.2, fm_inj j h13 i hi2 h3 hi z.1⟩)]
      exact h.2 w' i hi hi2
theorem cF_n {P : az_P} {f n : Nat → Nat → Int32} (h : cF P f n) {j : Nat} (x : Nat) (v : Int32) (hj : 16 ≤ j) : cF P f (u2 n j x v) := by
  refine ⟨h.1, fun w' i hi hi2 => ?_⟩
  have := fm_le i hi2 hi
  rw [u2_n _ _ (fun z => absurd z.1 (by omega))]
  exact h.2 w' i hi hi2
theorem cS_up {g n : Nat → Nat → Int32} (h : cS g n) (s : Nat) {j : Nat} (v : Int32) (h3 : 5 ≤ j) (h13 : j < 15) : cS (u2 g s j v) (u2 n (gm j) s v) := by
  intro w' i hi hi2
  by_cases hw : w' = s ∧ i = j
  · rw [hw.1, hw.2, u2_s, u2_s]
  · rw [u2_n _ _ hw, u2_n _ _ (fun z => hw ⟨z.2, gm_inj j h13 i hi2 h3 hi z.1⟩)]
    exact h w' i hi hi2
theorem cS_n {g n : Nat → Nat → Int32} (h : cS g n) {j : Nat} (x : Nat) (v : Int32) (hj : j < 28) : cS g (u2 n j x v) := by
  intro w' i hi hi2
  have := gm_ge i hi2 hi
  rw [u2_n _ _ (fun z => absurd z.1 (by omega))]
  exact h w' i hi hi2
def cr (P : az_P) (σ : sw_S) (A : az) (Q SP : Nat → List Nat) : Prop := cF P (σ 1) A.1 ∧ cS (σ 6) A.1 ∧ (∀ j, j < 6 → σ 4 0 j = nI (P j)) ∧ cQσ P σ A.2.1 Q SP ∧ cRσ P σ A.2.2 ∧ fg (lz P) σ
theorem cr_1 {P : az_P} {σ : sw_S} {A : az} {Q SP : Nat → List Nat} (h : cr P σ A Q SP) (w : Nat) {j : Nat} (v : Int32) (h3 : 3 ≤ j) (h13 : j < 13) : cr P (sw_up σ 1 w j v) (an A (fm j) w v) Q SP := by
  obtain ⟨a1, a2, a3, a4, a5, a6⟩ := h
  refine ⟨?_, ?_, ?_, ?_, ?_, fg_upk a6 (by decide)⟩
  · rw [sw_ups]; exact cF_up a1 w v h3 h13
  · rw [sw_upc _ (by decide)]
    have := fm_le j h13 h3
    exact cS_n a2 w v (by omega)
  · rw [sw_upc _ (by decide)]; exact a3
  · unfold cQσ
    rw [sw_upc _ (by decide), sw_upc _ (by decide), sw_upc _ (by decide), sw_upc _ (by decide), sw_upc _ (by decide)]; exact a4
  · unfold cRσ
    rw [sw_upc _ (by decide), sw_upc _ (by decide), sw_upc _ (by decide)]; exact a5
theorem cr_6 {P : az_P} {σ : sw_S} {A : az} {Q SP : Nat → List Nat} (h : cr P σ A Q SP) (s : Nat) {j : Nat} (v : Int32) (h3 : 5 ≤ j) (h13 : j < 15) : cr P (sw_up σ 6 s j v) (an A (gm j) s v) Q SP := by
  obtain ⟨a1, a2, a3, a4, a5, a6⟩ := h
  refine ⟨?_, ?_, ?_, ?_, ?_, fg_upk a6 (by decide)⟩
  · rw [sw_upc _ (by decide)]
    have := gm_ge j h13 h3
    exact cF_n a1 s v (by omega)
  · rw [sw_ups]; exact cS_up a2 s v h3 h13
  · rw [sw_upc _ (by decide)]; exact a3
  · unfold cQσ
    rw [sw_upc _ (by decide), sw_upc _ (by decide), sw_upc _ (by decide), sw_upc _ (by decide), sw_upc _ (by decide)]; exact a4
  · unfold cRσ
    rw [sw_upc _ (by decide), sw_upc _ (by decide), sw_upc _ (by decide)]; exact a5
theorem cr_q {P : az_P} {σ σ' : sw_S} {A : az} {Q SP Q' SP' : Nat → List Nat} {q' : az_q} (h : cr P σ A Q SP) (hq : cQσ P σ' q' Q' SP') (hk : ∀ c, noQ c → σ' c = σ c) : cr P σ' (A.1, q', A.2.2) Q' SP' := by
  obtain ⟨a1, a2, a3, a4, a5, a6⟩ := h
  have e1 := hk 1 (by decide)
  have e2 := hk 2 (by decide)
  have e3 := hk 3 (by decide)
  have e4 := hk 4 (by decide)
  have e6 := hk 6 (by decide)
  have e12 := hk 12 (by decide)
  refine ⟨?_, ?_, ?_, hq, ?_, fg_eq a6 (fun k => by rw [e2])⟩
  · rw [e1]; exact a1
  · rw [e6]; exact a2
  · rw [e4]; exact a3
  · unfold cRσ
    rw [e2, e3, e12]; exact a5
theorem cr_r {P : az_P} {σ σ' : sw_S} {A : az} {Q SP : Nat → List Nat} {f' : az_f} (h : cr P σ A Q SP) (hr : cRσ P σ' f') (hg : fg (lz P) σ') (hk : ∀ c, ¬ c = 2 → ¬ c = 12 → ¬ c = 3 → σ' c = σ c) : cr P σ' (A.1, A.2.1, f') Q SP := by
  obtain ⟨a1, a2, a3, a4, a5, a6⟩ := h
  have e0 := hk 0 (by decide) (by decide) (by decide)
  have e1 := hk 1 (by decide) (by decide) (by decide)
  have e4 := hk 4 (by decide) (by decide) (by decide)
  have e5 := hk 5 (by decide) (by decide) (by decide)
  have e6 := hk 6 (by decide) (by decide) (by decide)
  have e9 := hk 9 (by decide) (by decide) (by decide)
  have e10 := hk 10 (by decide) (by decide) (by decide)
  have e11 := hk 11 (by decide) (by decide) (by decide)
  refine ⟨?_, ?_, ?_, ?_, hr, hg⟩
  · rw [e1]; exact a1
  · rw [e6]; exact a2
  · rw [e4]; exact a3
  · unfold cQσ
    rw [e0, e5, e9, e10, e11]; exact a4
/-! what holds of the abstract state -/
def aiX (P : az_P) (n : Nat → Nat → Int32) (q : az_q) (x : Nat) : Prop := (sw_bo (n 7 x) ∧ sw_bo (n 11 x) ∧ sw_bo (n 12 x) ∧ sw_bo (n 13 x)) ∧ (∃ c : Nat, n 8 x = nI c ∧ c ≤ P 5) ∧ (∃ d : Nat, n 9 x = nI d ∧ d + (q 1 x).length ≤ P 5) ∧ ∃ w : Nat, n 10 x = nI w ∧ 1 ≤ w ∧ w ≤ 4
def aiS (P : az_P) (n : Nat → Nat → Int32) (s : Nat) : Prop := sw_bo (n 32 s) ∧ (∃ t : Nat, n 30 s = nI t ∧ t < P 0) ∧ (∃ c : Nat, n 31 s = nI c ∧ 1 ≤ c ∧ c ≤ 4) ∧ (∃ o : Nat, n 28 s = nI o ∧ o ≤ P 2) ∧ ∃ v : Nat, n 29 s = nI v ∧ v ≤ P 2
def aiQ (P : az_P) (q : az_q) : Prop := (∀ s, su (P 0) (fun t => (q 0 (8 * s + t)).length) ≤ P 3) ∧ ∀ b x, (P 0 ≤ x % 8 ∨ 16 ≤ x → q b x = []) ∧ ∀ p ∈ q b x, sw_bo p.2
def aiF (P : az_P) (f : az_f) : Prop := (∀ r, 4 ≤ r → f r = []) ∧ ∀ r, (f r).length ≤ rl P r ∧ ∀ l ∈ f r, (2 ≤ l.length ∧ l.length ≤ P 1 + 3) ∧ (r % 2 = 0 → ¬ la l 0 &&& 7 = 1 → sw_ushr (la l 0) 24 = 0)
def ai (P : az_P) (A : az) : Prop := (∀ x, aiX P A.1 A.2.1 x) ∧ (∀ s, aiS P A.1 s) ∧ aiQ P A.2.1 ∧ aiF P A.2.2
/-! the calls' sides and streams -/
def dS (i : Int32) : Option Nat := if i = 0 then some 0 else if i = 1 then some 1 else none
theorem dS_of (i : Int32) : (∃ s, s < 2 ∧ i = nI s ∧ dS i = some s ∧ wi_sa i = some (6, s) ∧ mo_is i = 1) ∨ (dS i = none ∧ wi_sa i = none ∧ mo_is i = 0) := by
  unfold dS wi_sa mo_is
  by_cases h0 : i = 0
  · exact Or.inl ⟨0, by decide, h0, by rw [if_pos h0], by rw [if_pos h0], by rw [if_pos h0]⟩
  · by_cases h1 : i = 1
    · exact Or.inl ⟨1, by decide, h1, by rw [if_neg h0, if_pos h1], by rw [if_neg h0, if_pos h1], by rw [if_neg h0, if_pos h1]⟩
    · exact Or.inr ⟨by rw [if_neg h0, if_neg h1], by rw [if_neg h0, if_neg h1], by rw [if_neg h0, if_neg h1]⟩
def dX (P : az_P) (i t : Int32) : Option (Nat × Nat) := match dS i with
  | none => none
  | some s => if t < 0 then none else if nI (P 0) ≤ t then none else some (s, t.toNatClampNeg)
theorem dX_of {P : az_P} (hP : az_ok P) (i t : Int32) : (∃ s x, s < 2 ∧ x < P 0 ∧ i = nI s ∧ t = nI x ∧ dS i = some s ∧ dX P i t = some (s, x) ∧ wi_sa i = some (6, s) ∧ wi_fl (lz P) i t = some (1, 8 * s + x) ∧ mo_is i = 1 ∧ (∀ σ, σ 8 0 0 = nI (P 0) → mo_st 0 i t σ = 1) ∧ mo_ix i t = nI (8 * s + x))
    ∨ (dX P i t = none ∧ wi_fl (lz P) i t = none ∧ ∀ σ, σ 8 0 0 = nI (P 0) → mo_st 0 i t σ = 0) := by
  have hp := hP.1
  rcases dS_of i with ⟨s, hs, he, h1, h2, h3⟩ | ⟨h1, h2, h3⟩
  · by_cases ht : t < 0
    · refine Or.inr ⟨?_, ?_, fun σ hσ => ?_⟩
      · unfold dX; rw [h1]; exact if_pos ht
      · unfold wi_fl; rw [h2]; exact if_pos ht
      · unfold mo_st; rw [h3, if_neg (by decide), if_pos ht]
    · by_cases ht2 : nI (P 0) ≤ t
      · refine Or.inr ⟨?_, ?_, fun σ hσ => ?_⟩
        · unfold dX; rw [h1]; exact (if_neg ht).trans (if_pos ht2)
        · unfold wi_fl; rw [h2]; exact (if_neg ht).trans (if_pos ht2)
        · unfold mo_st; rw [h3, if_neg (by decide), if_neg ht, hσ, if_pos ht2]
      · obtain ⟨x, hx, rfl⟩ := nI_of ht
        have hxl : x < P 0 := by
          rw [nI_leI (by omega) hx] at ht2
          omega
        refine Or.inl ⟨s, x, hs, hxl, he, rfl, h1, ?_, h2, ?_, h3, fun σ hσ => ?_, ?_⟩
        · unfold dX; rw [h1]
          refine (if_neg ht).trans ((if_neg ht2).trans ?_)
          rw [nI_clamp hx]
        · unfold wi_fl; rw [h2]
          refine (if_neg ht).trans ((if_neg ht2).trans ?_)
          rw [nI_clamp hx]
        · unfold mo_st; rw [h3, if_neg (by decide), if_neg ht, hσ, if_neg ht2]
        · unfold mo_ix
          rw [he, show (8 : Int32) * nI s = nI (8 * s) from pk_mul 8 s, nI_add]
  · refine Or.inr ⟨?_, ?_, fun σ _ => ?_⟩
    · unfold dX; rw [h1]
    · unfold wi_fl; rw [h2]; rfl
    · unfold mo_st; rw [h3, if_pos rfl]
