/-! The reference: receive, finish, hasSome -/
def mo_rx (x : Int32) (n : Nat) : Int32 := 400 * x + nI n
def mo_ra (x : Int32) (n : Nat) (a : sw_S) : sw_S := mis a 20 (mo_rx x n) (mi a 20 (mo_rx x n + 1))
def mo_rl (x : Int32) : Nat → sw_S → sw_S
  | 0, σ => σ
  | n + 1, σ => mbs (mo_ra x n (mo_rl x n σ)) 21 (mo_rx x n) (mb (mo_ra x n (mo_rl x n σ)) 21 (mo_rx x n + 1))
theorem mo_rl_k (x : Int32) {c k' : Nat} (h : ¬ (c = 15 ∧ k' = 20)) (h2 : ¬ (c = 16 ∧ k' = 21)) (j' : Nat) : ∀ (n : Nat) (σ : sw_S), mo_rl x n σ c k' j' = σ c k' j'
  | 0, _ => rfl
  | n + 1, σ => (if_neg (fun z => h2 ⟨z.1, z.2.1⟩)).trans ((if_neg (fun z => h ⟨z.1, z.2.1⟩)).trans (mo_rl_k x h h2 j' n σ))
theorem mo_rl_b (x : Int32) : ∀ (n : Nat) (σ : sw_S), (∀ y, sw_bo (σ 16 21 y)) → ∀ y, sw_bo (mo_rl x n σ 16 21 y)
  | 0, _, h, y => h y
  | n + 1, σ, h, y => by
    have ih := mo_rl_b x n σ h
    have hr : ∀ z, mo_ra x n (mo_rl x n σ) 16 21 z = mo_rl x n σ 16 21 z := fun z => sw_upk _ (by decide)
    show sw_bo (sw_up (mo_ra x n (mo_rl x n σ)) 16 21 _ _ 16 21 y)
    unfold sw_up
    split
    · show sw_bo (mo_ra x n (mo_rl x n σ) 16 21 _)
      rw [hr]
      exact ih _
    · show sw_bo (mo_ra x n (mo_rl x n σ) 16 21 _)
      rw [hr]
      exact ih y
def mo_r1 (x : Int32) (σ : sw_S) : sw_S := mis σ 19 x (mi σ 19 x - 1)
def mo_r3 (x : Int32) (a : sw_S) : sw_S := mis a 9 x (mi a 9 x + 1)
def mo_r4 (x m : Int32) (a : sw_S) : sw_S := mis a 14 x (mi a 14 x + (if m = 0 then 1 else 0))
def mo_r5 (x m : Int32) (a : sw_S) : sw_S := mis a 15 x (mi a 15 x + (if m = 0 then 0 else 1))
def mo_r6 (i m w : Int32) (a : sw_S) : sw_S := mis a 37 i (if m = 0 then w else mi a 37 i)
def mo_rz (i x m w : Int32) (a : sw_S) : sw_S := mo_r6 i m w (mo_r5 x m (mo_r4 x m (mo_r3 x a)))
def mo_rs (i x : Int32) (σ : sw_S) : sw_S := mo_rz i x (mb σ 21 (400 * x)) (mi σ 20 (400 * x)) (mo_rl x (mi σ 19 x - 1).toNatClampNeg (mo_r1 x σ))
def mo_re (k : Nat) (i t : Int32) (σ : sw_S) : wi_P := if mo_st k i t σ = 0 then (-1, σ) else if mi σ 6 (mo_ix i t) = 0 then (0, σ) else if mi σ 19 (mo_ix i t) = 0 then (if mb σ 7 (mo_ix i t) = 0 then (3, σ) else (4, σ)) else (if mb σ 21 (400 * mo_ix i t) = 0 then 1 else 2, mo_rs i (mo_ix i t) σ)
def mo_rp (x : Int32) (σ : sw_S) : Prop := vp_in (400 * x) 6400 ∧ 0 ≤ mi σ 19 x - 1 ∧ ∀ n, n < (mi σ 19 x - 1).toNatClampNeg → vp_in (mo_rx x n) 6400 ∧ vp_in (mo_rx x n + 1) 6400
def gX8_receive (ln : sw_A) (k : Nat) (i t : Int32) (σ : sw_S) : sw_X := (mo ln ∧ (∀ y, sw_bo (σ 16 21 y)) ∧ mo_pt k i t σ ∧ (¬ mo_st k i t σ = 0 → ¬ mi σ 19 (mo_ix i t) = 0 → mo_rp (mo_ix i t) σ), some (.inl (mo_re k i t σ).1), (mo_re k i t σ).2)
def fX8_receive (ln : sw_A) : sw_F := sw_foii 8 (gX8_receive ln)
def ctX8_receive (ln : sw_A) : sw_C := [(137, 3, 9, fX8_isStream ln)]
abbrev wX8_receive (ln : sw_A) (Q : Option sw_V → sw_S → Prop) : Nat → Nat → sw_L → List sw_V → sw_S → Prop := sw_wp sw_rf ln (ctX8_receive ln) sX8_receive 1 243 tX8_receive Q
theorem hX8_receive_l (ln : sw_A) (k n : Nat) (i t x m w : Int32) (σ : sw_S) (X : sw_X) (hm : mo ln) (hi : vp_in i 2) (hx : vp_in x 16) (hn : n < 2 ^ 31) (hz : mi σ 19 x = nI n) (hbo : ∀ y, sw_bo (σ 16 21 y)) (hb : ∀ j, j < n → vp_in (mo_rx x j) 6400 ∧ vp_in (mo_rx x j + 1) 6400) (hX : X.2 = (some (.inl (if m = 0 then 1 else 2)), mo_rz i x m w (mo_rl x n σ))) : ∀ (d j : Nat), j + d = n → ∃ fuel, wX8_receive ln (sw_end X) fuel 90 [some (.inr (some (8, k))), some (.inl i), some (.inl t), some (.inl x), some (.inl m), some (.inl w), some (.inl (nI j))] [] (mo_rl x j σ) := by
  intro d
  induction d with
  | zero =>
    intro j hj
    have hj : j = n := by omega
    subst hj
    have hl : mi (mo_rl x j σ) 19 x = nI j := (mo_rl_k x (by decide) (by decide) _ j σ).trans hz
    have v19 := hm.i (j := 19) rfl hx
    have v9 := hm.i (j := 9) rfl hx
    have v14 := hm.i (j := 14) rfl hx
    have v15 := hm.i (j := 15) rfl hx
    have v37 := hm.i (j := 37) rfl hi
    refine ⟨80, And.intro v19 (And.intro (fun _ => And.intro v9 (And.intro v9 (And.intro v14 ?_))) (fun (h : ¬ mi (mo_rl x j σ) 19 x ≤ nI j) => absurd (by rw [hl]; exact Int32.le_refl _) h))⟩
    by_cases h0 : m = 0
    · refine And.intro (fun _ => And.intro v14 (And.intro v15 (And.intro (fun _ => And.intro v15 (And.intro (fun _ => And.intro v37 (And.intro (fun _ => ?_) (fun z => absurd h0 z))) (fun z => absurd h0 z))) (fun z => absurd h0 z)))) (fun z => absurd h0 z)
      show some (Sum.inl 1) = X.2.1 ∧ _ = X.2.2
      rw [hX, if_pos h0]
      refine ⟨rfl, ?_⟩
      unfold mo_rz mo_r6 mo_r5 mo_r4
      rw [if_pos h0, if_pos h0, if_pos h0]
      rfl
    · refine And.intro (fun z => absurd z h0) (fun _ => And.intro v14 (And.intro v15 (And.intro (fun z => absurd z h0) (fun _ => And.intro v15 (And.intro (fun z => absurd z h0) (fun _ => And.intro v37 (And.intro v37 (And.intro (fun z => absurd z h0) (fun _ => ?_)))))))))
      show some (Sum.inl 2) = X.2.1 ∧ _ = X.2.2
      rw [hX, if_neg h0]
      refine ⟨rfl, ?_⟩
      unfold mo_rz mo_r6 mo_r5 mo_r4
      rw [if_neg h0, if_neg h0, if_neg h0]
      rfl
  | succ d ih =>
    intro j hj
    have hl : mi (mo_rl x j σ) 19 x = nI n := (mo_rl_k x (by decide) (by decide) _ j σ).trans hz
    have hbj := hb j (by omega)
    have v19 := hm.i (j := 19) rfl hx
    have v1 := hm.i (j := 20) rfl hbj.1
    have v2 := hm.i (j := 20) rfl hbj.2
    have v3 := hm.z (j := 21) rfl hbj.1
    have v4 := hm.z (j := 21) rfl hbj.2
    have hbb : sw_bo (mb (mo_ra x j (mo_rl x j σ)) 21 (mo_rx x j + 1)) := by
      rw [show mb (mo_ra x j (mo_rl x j σ)) 21 (mo_rx x j + 1) = mb (mo_rl x j σ) 21 (mo_rx x j + 1) from sw_upk _ (by decide)]
      exact mo_rl_b x j σ hbo _
    obtain ⟨f, hf⟩ := ih (j + 1) (by omega)
    rw [← nI_1] at hf
    refine ⟨f + 80, sw_ws_wp [90] f 80 _ _ _ _ ?_⟩
    refine And.intro v19 (And.intro (fun (h : mi (mo_rl x j σ) 19 x ≤ nI j) => absurd (by rw [← hl]; exact h) (nI_ge (a := j) (b := n) (by omega) hn)) (fun _ => And.intro v2 (And.intro v1 (And.intro v4 (And.intro v3 (And.intro hbb ?_))))))
    exact hf
theorem hX8_receive (ln : sw_A) (k : Nat) (i t : Int32) (σ : sw_S) (h : (gX8_receive ln k i t σ).1) : ∃ fuel, wX8_receive ln (sw_end (gX8_receive ln k i t σ)) fuel 0 (sw_ent 7 [.inr (some (8, k)), .inl i, .inl t]) [] σ := by
  obtain ⟨hm, hbo, hp, hr⟩ := h
  by_cases h1 : mo_st k i t σ = 0
  · exact ⟨20, And.intro trivial (And.intro (fun z => absurd h1 z) (fun _ => sw_pe (if_pos h1)))⟩
  · obtain ⟨hx, hi⟩ := hp h1
    have v6 := hm.i (j := 6) rfl hx
    have v19 := hm.i (j := 19) rfl hx
    by_cases h2 : mi σ 6 (mo_ix i t) = 0
    · exact ⟨30, And.intro trivial (And.intro (fun _ => And.intro v6 (And.intro (fun z => absurd h2 z) (fun _ => sw_pe ((if_neg h1).trans (if_pos h2))))) (fun z => absurd z h1))⟩
    · by_cases h3 : mi σ 19 (mo_ix i t) = 0
      · exact ⟨40, And.intro trivial (And.intro (fun _ => And.intro v6 (And.intro (fun _ => And.intro v19 (And.intro (fun z => absurd h3 z) (fun _ => And.intro (hm.z (j := 7) rfl hx) (And.intro (fun (h4 : mb σ 7 (mo_ix i t) = 0) => sw_pe ((if_neg h1).trans ((if_neg h2).trans ((if_pos h3).trans (if_pos h4))))) (fun (h4 : ¬ mb σ 7 (mo_ix i t) = 0) => sw_pe ((if_neg h1).trans ((if_neg h2).trans ((if_pos h3).trans (if_neg h4))))))))) (fun z => absurd z h2))) (fun z => absurd z h1))⟩
      · obtain ⟨r1, r2, r3⟩ := hr h1 h3
        obtain ⟨n, hn, hz⟩ := nI_of (Int32.not_lt.mpr r2)
        rw [hz, nI_clamp hn] at r3
        obtain ⟨f, hf⟩ := hX8_receive_l ln k n i t (mo_ix i t) (mb σ 21 (400 * mo_ix i t)) (mi σ 20 (400 * mo_ix i t)) (mo_r1 (mo_ix i t) σ) (gX8_receive ln k i t σ) hm hi hx hn ((sw_upe _ _ _ _ _).trans hz) (fun y => by
          rw [show mo_r1 (mo_ix i t) σ 16 21 y = σ 16 21 y from sw_upk _ (by decide)]
          exact hbo y) r3 (by
          show (some (Sum.inl (mo_re k i t σ).1), (mo_re k i t σ).2) = _
          unfold mo_re
          rw [if_neg h1, if_neg h2, if_neg h3]
          unfold mo_rs
          rw [hz, nI_clamp hn]) n 0 (by omega)
        refine ⟨f + 60, sw_ws_wp [90] f 60 _ _ _ _ ?_⟩
        exact And.intro trivial (And.intro (fun _ => And.intro v6 (And.intro (fun _ => And.intro v19 (And.intro (fun _ => And.intro (hm.z (j := 21) rfl r1) (And.intro (hm.i (j := 20) rfl r1) (And.intro v19 (And.intro v19 hf)))) (fun z => absurd z h3))) (fun z => absurd z h2))) (fun z => absurd z h1))
set_option maxRecDepth 100000 in
theorem mX8_receive {l : Launch} {ad : sw_A} {V : Nat → Nat → Prop} {ln : sw_A} {ca : Nat → ClassId} {D : va_G} (hG : sw_wf ad V sw_rf ln) : sw_met l ad V sw_rf ln ca D yX8_receive cX8_receive 7 (some .int) { frames := 2, cells := 0, slots := 0, locals := 42 } 3 (fX8_receive ln) := by
  refine sw_meth hG (by decide) (by refine ⟨?_, ?_, ?_, ?_⟩ <;> intro h <;> first | rfl | exact ⟨_, rfl⟩ | exact absurd h (by decide)) (by decide) kX8_receive flX8_in cnX8_in ?_ (sw_foii_h (W := fun Q L σ => ∃ fuel, wX8_receive ln Q fuel 0 L [] σ) (fun a0 a1 a2 σ h => hX8_receive ln a0 a1 a2 σ h))
  intro p e s m args below meth c S hT hnw
  refine List.forall_mem_cons.mpr ⟨sw_cokV S hT hnw (mX8_isStream hG) 137 8 (by decide) ⟨by decide +kernel, by decide +kernel, by decide +kernel, by decide +kernel, by decide +kernel⟩ ⟨rfl, by decide, by decide, by decide +kernel⟩ ⟨rfl, rfl⟩ ⟨by decide, by decide⟩, ?_⟩
  exact fun q h => absurd h List.not_mem_nil
def mo_h2 (x : Int32) (σ : sw_S) : Int32 := if mi σ 16 x = 0 then (if mb σ 12 x = 0 then 0 else 1) else 0
def mo_hs (x : Int32) (σ : sw_S) : Int32 := if mb σ 11 x = 0 then (if mi σ 16 x ≤ 0 then mo_h2 x σ else if 0 < mi σ 8 x then 1 else mo_h2 x σ) else 1
def gX8_hasSome (ln : sw_A) (k : Nat) (i t : Int32) (σ : sw_S) : sw_X := (mo ln ∧ vp_in (mo_ix i t) 16, some (.inl (mo_hs (mo_ix i t) σ)), σ)
def fX8_hasSome (ln : sw_A) : sw_F := sw_foii 8 (gX8_hasSome ln)
def ctX8_hasSome (ln : sw_A) : sw_C := []
abbrev wX8_hasSome (ln : sw_A) (Q : Option sw_V → sw_S → Prop) : Nat → Nat → sw_L → List sw_V → sw_S → Prop := sw_wp sw_rf ln (ctX8_hasSome ln) sX8_hasSome 2 57 tX8_hasSome Q
theorem hX8_hasSome (ln : sw_A) (k : Nat) (i t : Int32) (σ : sw_S) (h : (gX8_hasSome ln k i t σ).1) : ∃ fuel, wX8_hasSome ln (sw_end (gX8_hasSome ln k i t σ)) fuel 0 (sw_ent 4 [.inr (some (8, k)), .inl i, .inl t]) [] σ := by
  obtain ⟨hm, hx⟩ := h
  have v11 := hm.z (j := 11) rfl hx
  have v12 := hm.z (j := 12) rfl hx
  have v16 := hm.i (j := 16) rfl hx
  have v8 := hm.i (j := 8) rfl hx
  have key : ∃ M, mo_hs (mo_ix i t) σ = mo_h2 (mo_ix i t) σ → wX8_hasSome ln (sw_end (gX8_hasSome ln k i t σ)) M 34 [some (.inr (some (8, k))), some (.inl i), some (.inl t), some (.inl (mo_ix i t))] [] σ := by
    refine ⟨30, fun hh => ?_⟩
    refine And.intro v16 (And.intro (fun (a1 : ¬ mi σ 16 (mo_ix i t) = 0) => ⟨Or.inl rfl, sw_ri ?_, rfl⟩) (fun (a1 : mi σ 16 (mo_ix i t) = 0) => And.intro v12 (And.intro (fun (a2 : mb σ 12 (mo_ix i t) = 0) => ⟨Or.inl rfl, sw_ri ?_, rfl⟩) (fun (a2 : ¬ mb σ 12 (mo_ix i t) = 0) => ⟨Or.inr rfl, sw_ri ?_, rfl⟩))))
    · rw [hh]; exact (if_neg a1).symm
    · rw [hh]; exact ((if_pos a1).trans (if_pos a2)).symm
    · rw [hh]; exact ((if_pos a1).trans (if_neg a2)).symm
  obtain ⟨M, key⟩ := key
  refine ⟨M + 30, sw_ws_wp [34] M 30 _ _ _ _ ?_⟩
  exact And.intro v11 (And.intro (fun (a1 : ¬ mb σ 11 (mo_ix i t) = 0) => ⟨Or.inr rfl, sw_ri (if_neg a1).symm, rfl⟩) (fun (a1 : mb σ 11 (mo_ix i t) = 0) => And.intro v16 (And.intro (fun (a2 : mi σ 16 (mo_ix i t) ≤ 0) => key ((if_pos a1).trans (if_pos a2))) (fun (a2 : ¬ mi σ 16 (mo_ix i t) ≤ 0) => And.intro v8 (And.intro (fun (a3 : 0 < mi σ 8 (mo_ix i t)) => ⟨Or.inr rfl, sw_ri ((if_pos a1).trans ((if_neg a2).trans (if_pos a3))).symm, rfl⟩) (fun (a3 : ¬ 0 < mi σ 8 (mo_ix i t)) => key ((if_pos a1).trans ((if_neg a2).trans (if_neg a3)))))))))
set_option maxRecDepth 100000 in
theorem mX8_hasSome {l : Launch} {ad : sw_A} {V : Nat → Nat → Prop} {ln : sw_A} {ca : Nat → ClassId} {D : va_G} (hG : sw_wf ad V sw_rf ln) : sw_met l ad V sw_rf ln ca D yX8_hasSome cX8_hasSome 4 (some .boolean) { frames := 0, cells := 0, slots := 0, locals := 0 } 3 (fX8_hasSome ln) := by
  refine sw_meth hG (by decide) (by refine ⟨?_, ?_, ?_, ?_⟩ <;> intro h <;> first | rfl | exact ⟨_, rfl⟩ | exact absurd h (by decide)) (by decide) kX8_hasSome flX8_in cnX8_in ?_ (sw_foii_h (W := fun Q L σ => ∃ fuel, wX8_hasSome ln Q fuel 0 L [] σ) (fun a0 a1 a2 σ h => hX8_hasSome ln a0 a1 a2 σ h))
  intro p e s m args below meth c S hT hnw
  exact fun q h => absurd h List.not_mem_nil
