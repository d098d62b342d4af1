/-! The pure part: what stays true over the small calls -/
theorem an_n (A : az) {j x : Nat} {v : Int32} {j' : Nat} (h : ¬ j' = j) : (an A j x v).1 j' = A.1 j' := u2_rn _ _ h
theorem ai_open {P : az_P} (hP : az_ok P) {A : az} (h : ai P A) (i t : Int32) : ai P (O_open P i t A).2 := by
  unfold O_open
  split
  · exact h
  · rename_i q _
    unfold o_open
    split
    · have h1 : ai P (an A 6 (8 * q.1 + q.2) 1) := ai_an h trivial
      have h2 : ai P (an (an A 6 (8 * q.1 + q.2) 1) 8 (8 * q.1 + q.2) (nI (P 5))) := ai_an h1 ⟨P 5, rfl, Nat.le_refl _⟩
      exact ai_an h2 (Or.inr rfl)
    · exact h
theorem ai_close {P : az_P} {A : az} (h : ai P A) (i t : Int32) : ai P (O_close P i t A).2 := by
  unfold O_close
  split
  · exact h
  · rename_i q _
    unfold o_close
    split
    · have h1 : ai P (an A 6 (8 * q.1 + q.2) 2) := ai_an h trivial
      exact ai_an h1 (Or.inr rfl)
    · exact h
theorem ai_weight {P : az_P} {A : az} (h : ai P A) (i t w : Int32) : ai P (O_weight P i t w A).2 := by
  unfold O_weight
  split
  · exact h
  · rename_i q _
    split
    · exact h
    · rename_i h1
      split
      · rename_i h4
        obtain ⟨n, hn, e⟩ := nI_of (x := w) (fun z => h1 (Int32.lt_trans z (by decide)))
        rw [e, show (1 : Int32) = nI 1 from rfl, nI_ltI hn (by decide)] at h1
        rw [e, show (4 : Int32) = nI 4 from rfl, nI_leI hn (by decide)] at h4
        exact ai_an h ⟨n, e, by omega, by omega⟩
      · exact h
theorem dX_lt {P : az_P} (hP : az_ok P) {i t : Int32} {q : Nat × Nat} (h : dX P i t = some q) : q.1 < 2 ∧ q.2 < P 0 := by
  rcases dX_of hP i t with ⟨s, x, hs, hx, -, -, -, h1, -, -, -, -⟩ | ⟨h1, -, -⟩
  · rw [h] at h1
    injection h1 with h1
    rw [h1]
    exact ⟨hs, hx⟩
  · rw [h] at h1
    cases h1
theorem ai_put {P : az_P} (hP : az_ok P) {A : az} (h : ai P A) (i t w : Int32) {b : Int32} (hb : sw_bo b) : ai P (O_put P i t w b A).2 := by
  have hp := hP.1
  unfold O_put
  split
  · exact h
  · rename_i q hq
    obtain ⟨hs, hx⟩ := dX_lt hP hq
    obtain ⟨s, x⟩ := q
    have hs : s < 2 := hs
    have hx : x < P 0 := hx
    show ai P (o_put P s (8 * s + x) w b A).2
    unfold o_put
    split
    · split
      · exact h
      · rename_i hf
        have hlt := o_fr_ne hf
        have l0 := o_q0_le P s A
        refine ai_iff.mpr ⟨fun j x' => ?_, ⟨fun s' => ?_, fun b' x' => ?_⟩, h.2.2.2⟩
        · refine okv_q (h.v j x') ?_
          show (u2 A.2.1 0 (8 * s + x) (A.2.1 0 (8 * s + x) ++ [(w, b)]) 1 x').length ≤ _
          rw [u2_n _ _ (fun z => absurd z.1 (by decide))]
          exact Nat.le_refl _
        · show su (P 0) (fun t => (u2 A.2.1 0 (8 * s + x) (A.2.1 0 (8 * s + x) ++ [(w, b)]) 0 (8 * s' + t)).length) ≤ P 3
          by_cases hss : s' = s
          · subst hss
            have this : su (P 0) (fun t => (u2 A.2.1 0 (8 * s' + x) (A.2.1 0 (8 * s' + x) ++ [(w, b)]) 0 (8 * s' + t)).length) + (A.2.1 0 (8 * s' + x)).length = su (P 0) (fun t => (A.2.1 0 (8 * s' + t)).length) + (u2 A.2.1 0 (8 * s' + x) (A.2.1 0 (8 * s' + x) ++ [(w, b)]) 0 (8 * s' + x)).length := su_up (f := fun t => (A.2.1 0 (8 * s' + t)).length) (g := fun t => (u2 A.2.1 0 (8 * s' + x) (A.2.1 0 (8 * s' + x) ++ [(w, b)]) 0 (8 * s' + t)).length) hx (fun j hj hjx => by
              show (u2 A.2.1 0 (8 * s' + x) (A.2.1 0 (8 * s' + x) ++ [(w, b)]) 0 (8 * s' + j)).length = _
              rw [u2_n _ _ (fun z => absurd z.2 (by omega))])
            have e : (u2 A.2.1 0 (8 * s' + x) (A.2.1 0 (8 * s' + x) ++ [(w, b)]) 0 (8 * s' + x)).length = (A.2.1 0 (8 * s' + x)).length + 1 := by
              rw [u2_s, List.length_append, List.length_singleton]
            rw [e] at this
            omega
          · refine Nat.le_trans (Nat.le_of_eq (su_congr (fun t ht => ?_))) (h.2.2.1.1 s')
            show (u2 A.2.1 0 (8 * s + x) (A.2.1 0 (8 * s + x) ++ [(w, b)]) 0 (8 * s' + t)).length = _
            rw [u2_n _ _ (fun z => absurd z.2 (by omega))]
        · have hh := h.2.2.1.2 b' x'
          show (P 0 ≤ x' % 8 ∨ 16 ≤ x' → u2 A.2.1 0 (8 * s + x) (A.2.1 0 (8 * s + x) ++ [(w, b)]) b' x' = []) ∧ ∀ p ∈ u2 A.2.1 0 (8 * s + x) (A.2.1 0 (8 * s + x) ++ [(w, b)]) b' x', sw_bo p.2
          by_cases hc : b' = 0 ∧ x' = 8 * s + x
          · rw [hc.1, hc.2, u2_s]
            rw [hc.1, hc.2] at hh
            refine ⟨fun z => by omega, fun p hp => ?_⟩
            rcases List.mem_append.mp hp with hp | hp
            · exact hh.2 p hp
            · rw [List.mem_singleton.mp hp]
              exact hb
          · rw [u2_n _ _ hc]
            exact hh
    · exact h
theorem ai_recv {P : az_P} {A : az} (h : ai P A) (i t : Int32) : ai P (O_recv P i t A).2 := by
  unfold O_recv
  split
  · exact h
  · rename_i q _
    obtain ⟨s, y⟩ := q
    show ai P (o_recv s (8 * s + y) A).2
    obtain ⟨x, hx⟩ : ∃ x, x = 8 * s + y := ⟨_, rfl⟩
    rw [← hx]
    unfold o_recv
    split
    · exact h
    · match hq : A.2.1 1 x with
      | [] => exact h
      | p :: r =>
        show ai P (o_rv s x p r A)
        obtain ⟨d, ed, hd⟩ := h.v 9 x
        rw [hq, List.length_cons] at hd
        have h1 : ai P (o_r1 s p A) ∧ (o_r1 s p A).2.1 = A.2.1 ∧ (o_r1 s p A).1 9 x = nI d := by
          unfold o_r1
          split
          · refine ⟨ai_an h trivial, rfl, ?_⟩
            rw [an_n _ (by decide)]; exact ed
          · exact ⟨h, rfl, ed⟩
        obtain ⟨B, hB⟩ : ∃ B, B = o_r1 s p A := ⟨_, rfl⟩
        rw [← hB] at h1
        have h2 : ai P (o_r2 x p B) ∧ (o_r2 x p B).2.1 = A.2.1 ∧ (o_r2 x p B).1 9 x = nI d := by
          unfold o_r2
          split
          · refine ⟨ai_an h1.1 trivial, h1.2.1, ?_⟩
            rw [an_n _ (by decide)]; exact h1.2.2
          · refine ⟨ai_an h1.1 trivial, h1.2.1, ?_⟩
            rw [an_n _ (by decide)]; exact h1.2.2
        unfold o_rv
        rw [← hB]
        obtain ⟨C, hC⟩ : ∃ C, C = o_r2 x p B := ⟨_, rfl⟩
        rw [← hC] at h2 ⊢
        have hq2 : C.2.1 1 x = p :: r := by rw [h2.2.1, hq]
        have h3 : ai P (aq C 1 x r) := ai_aq h2.1 (fun _ => by rw [hq2, List.length_cons]; omega) (fun z => absurd z (by decide)) (fun p' hp' => by rw [hq2]; exact List.mem_cons_of_mem _ hp')
        refine ai_an h3 ⟨d + 1, ?_, ?_⟩
        · show C.1 9 x + 1 = _
          rw [h2.2.2, nI_succ]
        · show d + 1 + (u2 C.2.1 1 x r 1 x).length ≤ _
          rw [u2_s]
          omega
theorem ai_lose {P : az_P} {A : az} (h : ai P A) (i : Int32) : ai P (O_lose i A).2 := by
  unfold O_lose
  split
  · exact h
  · rename_i s _
    split
    · exact h
    · rename_i ls hl
      exact ai_af h (aiF_tl h.2.2.2 hl)
theorem ai_corrupt {P : az_P} {A : az} (h : ai P A) (i k m : Int32) : ai P (O_corrupt i k m A).2 := by
  unfold O_corrupt
  split
  · exact h
  · rename_i s _
    match hq : A.2.2 (2 * s + 1) with
    | [] => exact h
    | l :: ls =>
      show ai P (o_cp (2 * s + 1) k m A l ls).2
      unfold o_cp
      split
      · exact h
      · split
        · refine ai_af h ⟨fun r' h4 => ?_, fun r' => ?_⟩
          · by_cases hr : r' = 2 * s + 1
            · have := h.2.2.2.1 r' h4
              rw [hr, hq] at this
              cases this
            · rw [u1_n _ _ hr]
              exact h.2.2.2.1 r' h4
          · have hh := h.2.2.2.2 r'
            by_cases hr : r' = 2 * s + 1
            · subst hr
              rw [u1_s]
              rw [hq] at hh
              refine ⟨hh.1, fun l' hl' => ?_⟩
              rcases List.mem_cons.mp hl' with rfl | hl'
              · rw [List.length_set]
                exact ⟨(hh.2 l List.mem_cons_self).1, fun z => by omega⟩
              · exact hh.2 l' (List.mem_cons_of_mem _ hl')
            · rw [u1_n _ _ hr]
              exact hh
        · exact h
