/-! The reference: pump, drain -/
def mo_gs (i : Int32) (σ : sw_S) : Nat → Nat → Int32
  | 0, _ => -2
  | d + 1, j => if mi σ 9 (mo_ix i (nI j)) ≤ 0 then mo_gs i σ d (j + 1) else nI j
def mo_g1 (k : Nat) (i t : Int32) (σ : sw_S) : sw_S := mo_bf k i 2 t 0 σ
def mo_g2 (k : Nat) (i t : Int32) (σ : sw_S) : sw_S := mis (mo_ad k (mi (mo_g1 k i t σ) 9 (mo_ix i t)) (mo_g1 k i t σ)) 9 (mo_ix i t) 0
def mo_tt (k : Nat) (i : Int32) (j : Nat) (σ : sw_S) : Int32 := sw_rem (mi σ 30 i + nI j) (σ 8 k 0)
def mo_ts (k : Nat) (i : Int32) (σ : sw_S) : Nat → Nat → Int32
  | 0, _ => -2
  | d + 1, j => if mo_hs (mo_ix i (mo_tt k i j σ)) σ = 0 then mo_ts k i σ d (j + 1) else nI j
def mo_ua (i t : Int32) (σ : sw_S) : sw_S := mis (mis σ 30 i t) 31 i (mi (mis σ 30 i t) 10 (mo_ix i t))
def mo_u0 (i j t : Int32) (σ : sw_S) : sw_S := if j ≤ 0 then σ else mo_ua i t σ
def mo_u1 (k : Nat) (i t : Int32) (a : sw_S) : sw_S := mo_fi k i (mo_so k i t (mo_ix i t) a)
def mo_u2 (i : Int32) (a : sw_S) : sw_S := mis a 31 i (mi a 31 i - 1)
def mo_ub (k : Nat) (i t : Int32) (a : sw_S) : sw_S := mis a 30 i (sw_rem (t + 1) (a 8 k 0))
def mo_uc (i : Int32) (a : sw_S) : sw_S := mis a 31 i (mi a 10 (mo_ix i (mi a 30 i)))
def mo_u3 (k : Nat) (i t : Int32) (a : sw_S) : sw_S := if mi a 31 i = 0 then mo_uc i (mo_ub k i t a) else a
def mo_un (k : Nat) (i j t : Int32) (σ : sw_S) : sw_S := mo_u3 k i t (mo_u2 i (mo_u1 k i t (mo_u0 i j t σ)))
def mo_ak (k : Nat) (i : Int32) (σ : sw_S) : wi_P := if mb σ 32 i = 0 then (0, σ) else (50, mo_fi k i (mo_bf k i 0 0 0 σ))
def mo_pm (k : Nat) (i : Int32) (S : Nat) (σ : sw_S) : wi_P :=
  if mo_is i = 0 then (-1, σ) else if mi σ 25 i = σ 8 k 4 then (0, σ) else if σ 8 k 2 ≤ mi σ 22 i then mo_ak k i σ
  else if mo_gs i σ S 0 = -2 then (if mo_ts k i σ S 0 = -2 then mo_ak k i σ else (1 + mo_tt k i (mo_ts k i σ S 0).toNatClampNeg σ, mo_un k i (mo_ts k i σ S 0) (mo_tt k i (mo_ts k i σ S 0).toNatClampNeg σ) σ))
  else (1 + mo_gs i σ S 0, mo_fi k i (mo_g2 k i (mo_gs i σ S 0) σ))
/-- what a frame in turn asks: of place j -/
def mo_up (ln : sw_A) (k : Nat) (i j t : Int32) (σ : sw_S) : Prop := (gX8_sendOf ln k i t (mo_u0 i j t σ)).1 ∧ (mi (mo_u2 i (mo_u1 k i t (mo_u0 i j t σ))) 31 i = 0 → ¬ mo_u2 i (mo_u1 k i t (mo_u0 i j t σ)) 8 k 0 = 0 ∧ vp_in (mo_ix i (mi (mo_ub k i t (mo_u2 i (mo_u1 k i t (mo_u0 i j t σ)))) 30 i)) 16)
def mo_pp (ln : sw_A) (k : Nat) (i : Int32) (S : Nat) (σ : sw_S) : Prop := σ 8 k 0 = nI S ∧ 0 < S ∧ S ≤ 8 ∧ vp_in i 2 ∧ (∀ j, j < S → vp_in (mo_ix i (nI j)) 16) ∧ (∀ j, j < S → vp_in (mo_ix i (mo_tt k i j σ)) 16)
  ∧ (∀ j, j < S → ¬ mi σ 9 (mo_ix i (nI j)) ≤ 0 → (gX8_finish ln k i (mo_g2 k i (nI j) σ)).1)
  ∧ (∀ j, j < S → ¬ mo_hs (mo_ix i (mo_tt k i j σ)) σ = 0 → mo_up ln k i (nI j) (mo_tt k i j σ) σ)
  ∧ (¬ mb σ 32 i = 0 → (gX8_finish ln k i (mo_bf k i 0 0 0 σ)).1)
def mo_pw (ln : sw_A) (k : Nat) (i : Int32) (S : Nat) (σ : sw_S) : Prop := σ 8 k 0 = nI S ∧ 0 < S ∧ S ≤ 8 ∧ vp_in i 2 ∧ (¬ mi σ 25 i = σ 8 k 4 → (¬ σ 8 k 2 ≤ mi σ 22 i → mo_pp ln k i S σ) ∧ (¬ mb σ 32 i = 0 → (gX8_finish ln k i (mo_bf k i 0 0 0 σ)).1))
def gX8_pump (ln : sw_A) (k : Nat) (i : Int32) (σ : sw_S) : sw_X := (mo ln ∧ (¬ mo_is i = 0 → mo_pw ln k i (σ 8 k 0).toNatClampNeg σ), some (.inl (mo_pm k i (σ 8 k 0).toNatClampNeg σ).1), (mo_pm k i (σ 8 k 0).toNatClampNeg σ).2)
def fX8_pump (ln : sw_A) : sw_F := sw_foi 8 (gX8_pump ln)
def ctX8_pump (ln : sw_A) : sw_C := [(133, 1, 0, fX8_isSide ln), (166, 5, 9, fX8_beginFrame ln), (160, 2, 9, fX8_add ln), (170, 2, 9, fX8_finish ln), (173, 3, 9, fX8_hasSome ln), (176, 3, 9, fX8_sendOf ln)]
abbrev wX8_pump (ln : sw_A) (Q : Option sw_V → sw_S → Prop) : Nat → Nat → sw_L → List sw_V → sw_S → Prop := sw_wp sw_rf ln (ctX8_pump ln) sX8_pump 1 261 tX8_pump Q
theorem hX8_pump_g (ln : sw_A) (k S : Nat) (i : Int32) (σ : sw_S) (X : sw_X) (hm : mo ln) (hp : mo_pp ln k i S σ) (M : Nat) (hM : mo_gs i σ S 0 = -2 → ∀ v2 v3, wX8_pump ln (sw_end X) M 103 [some (.inr (some (8, k))), some (.inl i), v2, v3] [] σ) : ∀ (d j : Nat) (v3 : Option sw_V), j + d = S → mo_gs i σ S 0 = mo_gs i σ d j → (¬ mo_gs i σ S 0 = -2 → X.2 = (some (.inl (1 + mo_gs i σ S 0)), mo_fi k i (mo_g2 k i (mo_gs i σ S 0) σ))) → ∃ fuel, wX8_pump ln (sw_end X) fuel 39 [some (.inr (some (8, k))), some (.inl i), some (.inl (nI j)), v3] [] σ := by
  obtain ⟨hz, h0, h8, hi, hb, -, hfin, -, -⟩ := hp
  intro d
  induction d with
  | zero =>
    intro j v3 hj he hX
    have hj : j = S := by omega
    subst hj
    refine ⟨M + 20, sw_ws_wp [103] M 20 _ _ _ _ ?_⟩
    exact And.intro (fun _ => hM he _ _) (fun (h : ¬ σ 8 k 0 ≤ nI j) => absurd (by rw [hz]; exact Int32.le_refl _) h)
  | succ d ih =>
    intro j v3 hj he hX
    have hx := hb j (by omega)
    have v9 := hm.i (j := 9) rfl hx
    by_cases h1 : mi σ 9 (mo_ix i (nI j)) ≤ 0
    · obtain ⟨f, hf⟩ := ih (j + 1) (some (.inl (mo_ix i (nI j)))) (by omega) (he.trans (if_pos h1)) hX
      rw [← nI_1] at hf
      refine ⟨f + 40, sw_ws_wp [39] f 40 _ _ _ _ ?_⟩
      exact And.intro (fun (h : σ 8 k 0 ≤ nI j) => absurd (by rw [← hz]; exact h) (nI_ge (a := j) (b := S) (by omega) (by omega))) (fun _ => And.intro v9 (And.intro (fun _ => hf) (fun z => absurd h1 z)))
    · have e1 : mo_gs i σ S 0 = nI j := he.trans (if_neg h1)
      have e2 : ¬ mo_gs i σ S 0 = -2 := by
        rw [e1]
        intro z
        have : (nI j).toInt = (-2 : Int32).toInt := by rw [z]
        rw [nI_toInt (by omega)] at this
        exact absurd this (by show ¬ ((j : Int) = -2); omega)
      refine ⟨60, And.intro (fun (h : σ 8 k 0 ≤ nI j) => absurd (by rw [← hz]; exact h) (nI_ge (a := j) (b := S) (by omega) (by omega))) (fun _ => And.intro v9 (And.intro (fun z => absurd z h1) (fun _ => And.intro ⟨hm, hi⟩ (And.intro v9 (And.intro ⟨hm, ?_⟩ (And.intro v9 (And.intro (hfin j (by omega) h1) ?_)))))))⟩
      · show vp_in (mo_g1 k i (nI j) σ 8 k 39) 19
        rw [show mo_g1 k i (nI j) σ 8 k 39 = nI 1 from mo_bf_s _ _ _ _ _ _]
        exact vp_in_nI (by decide) (by decide)
      · show some (Sum.inl (1 + nI j)) = X.2.1 ∧ mo_fi k i (mo_g2 k i (nI j) σ) = X.2.2
        rw [hX e2, e1]
        exact ⟨rfl, rfl⟩
theorem hX8_pump_t (ln : sw_A) (k S : Nat) (i : Int32) (σ : sw_S) (X : sw_X) (hm : mo ln) (hp : mo_pp ln k i S σ) (M : Nat) (hM : mo_ts k i σ S 0 = -2 → ∀ v2 v3, wX8_pump ln (sw_end X) M 235 [some (.inr (some (8, k))), some (.inl i), v2, v3] [] σ) : ∀ (d j : Nat), j + d = S → mo_ts k i σ S 0 = mo_ts k i σ d j → (∀ j, mo_ts k i σ S 0 = nI j → j < S → X.2 = (some (.inl (1 + mo_tt k i j σ)), mo_un k i (nI j) (mo_tt k i j σ) σ)) → ∃ fuel, ∀ v3, wX8_pump ln (sw_end X) fuel 105 [some (.inr (some (8, k))), some (.inl i), some (.inl (nI j)), v3] [] σ := by
  obtain ⟨hz, h0, h8, hi, -, hb, -, hup, -⟩ := hp
  have v30 := hm.i (j := 30) rfl hi
  have v31 := hm.i (j := 31) rfl hi
  have hS : ¬ σ 8 k 0 = 0 := by rw [hz]; exact nI_ne0 h0 (by omega)
  intro d
  induction d with
  | zero =>
    intro j hj he hX
    have hj : j = S := by omega
    subst hj
    refine ⟨M + 20, fun v3 => sw_ws_wp [235] M 20 _ _ _ _ ?_⟩
    exact And.intro (fun _ => hM he _ _) (fun (h : ¬ σ 8 k 0 ≤ nI j) => absurd (by rw [hz]; exact Int32.le_refl _) h)
  | succ d ih =>
    intro j hj he hX
    have hx := hb j (by omega)
    have hlt : ¬ σ 8 k 0 ≤ nI j := by rw [hz]; exact nI_ge (by omega) (by omega)
    by_cases h1 : mo_hs (mo_ix i (mo_tt k i j σ)) σ = 0
    · obtain ⟨f, hf⟩ := ih (j + 1) (by omega) (he.trans (if_pos h1)) hX
      have hf := hf (some (.inl (mo_tt k i j σ)))
      rw [← nI_1] at hf
      refine ⟨f + 40, fun v3 => sw_ws_wp [105] f 40 _ _ _ _ ?_⟩
      exact And.intro (fun h => absurd h hlt) (fun _ => And.intro v30 (And.intro hS (And.intro ⟨hm, hx⟩ (And.intro (fun _ => hf) (fun z => absurd h1 z)))))
    · have e1 : mo_ts k i σ S 0 = nI j := he.trans (if_neg h1)
      have hX1 := hX j e1 (by omega)
      obtain ⟨t, ht⟩ : ∃ t, t = mo_tt k i j σ := ⟨_, rfl⟩
      obtain ⟨u1, u2⟩ := hup j (by omega) h1
      rw [← ht] at hX1 u1 u2 hx
      have v10 := hm.i (j := 10) rfl hx
      have k225 : ∃ M, ∀ b, b = mo_un k i (nI j) t σ → wX8_pump ln (sw_end X) M 225 [some (.inr (some (8, k))), some (.inl i), some (.inl (nI j)), some (.inl t)] [] b := by
        refine ⟨10, fun b hb2 => ?_⟩
        show some (Sum.inl (1 + t)) = X.2.1 ∧ b = X.2.2
        rw [hX1, hb2]
        exact ⟨rfl, rfl⟩
      obtain ⟨M1, k225⟩ := k225
      have k164 : ∃ M, ∀ b, b = mo_u0 i (nI j) t σ → wX8_pump ln (sw_end X) M 164 [some (.inr (some (8, k))), some (.inl i), some (.inl (nI j)), some (.inl t)] [] b := by
        refine ⟨M1 + 60, fun b hb2 => sw_ws_wp [225] M1 60 _ _ _ _ ?_⟩
        subst hb2
        refine And.intro u1 (And.intro v31 (And.intro v31 (And.intro v31 (And.intro (fun (a1 : ¬ mi (mo_u2 i (mo_u1 k i t (mo_u0 i (nI j) t σ))) 31 i = 0) => k225 _ ?_) (fun (a1 : mi (mo_u2 i (mo_u1 k i t (mo_u0 i (nI j) t σ))) 31 i = 0) => And.intro (u2 a1).1 (And.intro v30 (And.intro v30 (And.intro (hm.i (j := 10) rfl (u2 a1).2) (And.intro v31 (k225 _ ?_)))))))))) 
        · exact (if_neg a1).symm
        · exact (if_pos a1).symm
      obtain ⟨M2, k164⟩ := k164
      rw [ht] at k164 v10
      refine ⟨M2 + 60, fun v3 => sw_ws_wp [164] M2 60 _ _ _ _ ?_⟩
      exact And.intro (fun h => absurd h hlt) (fun _ => And.intro v30 (And.intro hS (And.intro ⟨hm, hb j (by omega)⟩ (And.intro (fun z => absurd z h1) (fun _ => And.intro (fun (a1 : nI j ≤ 0) => k164 _ (if_pos a1).symm) (fun (a1 : ¬ nI j ≤ 0) => And.intro v30 (And.intro v10 (And.intro v31 (k164 _ (if_neg a1).symm)))))))))
theorem mo_ts_nI (k : Nat) (i : Int32) (σ : sw_S) : ∀ (d j : Nat), ¬ mo_ts k i σ d j = -2 → ∃ q, mo_ts k i σ d j = nI q ∧ q < j + d
  | 0, _, h => absurd rfl h
  | d + 1, j, h => by
    unfold mo_ts at h ⊢
    split
    · rename_i z
      rw [if_pos z] at h
      obtain ⟨q, h1, h2⟩ := mo_ts_nI k i σ d (j + 1) h
      exact ⟨q, h1, by omega⟩
    · exact ⟨j, rfl, by omega⟩
theorem hX8_pump (ln : sw_A) (k : Nat) (i : Int32) (σ : sw_S) (h : (gX8_pump ln k i σ).1) : ∃ fuel, wX8_pump ln (sw_end (gX8_pump ln k i σ)) fuel 0 (sw_ent 4 [.inr (some (8, k)), .inl i]) [] σ := by
  obtain ⟨hm, hp⟩ := h
  by_cases h1 : mo_is i = 0
  · exact ⟨20, And.intro trivial (And.intro (fun z => absurd h1 z) (fun _ => sw_pe (if_pos h1)))⟩
  · have hp := hp h1
    obtain ⟨S, hS⟩ : ∃ S, S = (σ 8 k 0).toNatClampNeg := ⟨_, rfl⟩
    rw [← hS] at hp
    have hpm : mo_pm k i (σ 8 k 0).toNatClampNeg σ = mo_pm k i S σ := by rw [hS]
    have hi := hp.2.2.2.1
    have v25 := hm.i (j := 25) rfl hi
    have v22 := hm.i (j := 22) rfl hi
    by_cases h2 : mi σ 25 i = σ 8 k 4
    · exact ⟨20, And.intro trivial (And.intro (fun _ => And.intro v25 (And.intro (fun z => absurd h2 z) (fun _ => sw_pe ((if_neg h1).trans (if_pos h2))))) (fun z => absurd z h1))⟩
    · have k235 : ∃ M, ∀ v2 v3, mo_pm k i S σ = mo_ak k i σ → wX8_pump ln (sw_end (gX8_pump ln k i σ)) M 235 [some (.inr (some (8, k))), some (.inl i), v2, v3] [] σ := by
        refine ⟨30, fun v2 v3 he => ?_⟩
        refine And.intro (hm.z (j := 32) rfl hi) (And.intro (fun (a1 : ¬ mb σ 32 i = 0) => And.intro ⟨hm, hi⟩ (And.intro ((hp.2.2.2.2 h2).2 a1) (sw_pe ?_))) (fun (a1 : mb σ 32 i = 0) => sw_pe ?_))
        · rw [hpm, he]; exact if_neg a1
        · rw [hpm, he]; exact if_pos a1
      obtain ⟨M, k235⟩ := k235
      by_cases h3 : σ 8 k 2 ≤ mi σ 22 i
      · refine ⟨M + 30, sw_ws_wp [235] M 30 _ _ _ _ ?_⟩
        exact And.intro trivial (And.intro (fun _ => And.intro v25 (And.intro (fun _ => And.intro v22 (And.intro (fun _ => k235 _ _ ((if_neg h1).trans ((if_neg h2).trans (if_pos h3)))) (fun z => absurd h3 z))) (fun z => absurd z h2))) (fun z => absurd z h1))
      · have k103 : ∃ M, mo_gs i σ S 0 = -2 → ∀ v2 v3, wX8_pump ln (sw_end (gX8_pump ln k i σ)) M 103 [some (.inr (some (8, k))), some (.inl i), v2, v3] [] σ := by
          by_cases h4 : mo_gs i σ S 0 = -2
          · obtain ⟨f, hf⟩ := hX8_pump_t ln k S i σ (gX8_pump ln k i σ) hm ((hp.2.2.2.2 h2).1 h3) M (fun h5 v2 v3 => k235 v2 v3 ((if_neg h1).trans ((if_neg h2).trans ((if_neg h3).trans ((if_pos h4).trans (if_pos h5)))))) S 0 (by omega) rfl (fun j hj hjS => by
              have hS8 := hp.2.2.1
              have e5 : ¬ mo_ts k i σ S 0 = -2 := by
                rw [hj]
                intro z
                have : (nI j).toInt = (-2 : Int32).toInt := by rw [z]
                rw [nI_toInt (by omega)] at this
                exact absurd this (by show ¬ ((j : Int) = -2); omega)
              show (some (Sum.inl (mo_pm k i (σ 8 k 0).toNatClampNeg σ).1), (mo_pm k i (σ 8 k 0).toNatClampNeg σ).2) = _
              rw [hpm]
              unfold mo_pm
              rw [if_neg h1, if_neg h2, if_neg h3, if_pos h4, if_neg e5, hj, nI_clamp (by omega)])
            exact ⟨f + 10, fun _ v2 v3 => sw_ws_wp [105] f 10 _ _ _ _ (hf v3)⟩
          · exact ⟨0, fun z => absurd z h4⟩
        obtain ⟨M1, k103⟩ := k103
        obtain ⟨f, hf⟩ := hX8_pump_g ln k S i σ (gX8_pump ln k i σ) hm ((hp.2.2.2.2 h2).1 h3) M1 k103 S 0 none (by omega) rfl (fun e5 => by
          show (some (Sum.inl (mo_pm k i (σ 8 k 0).toNatClampNeg σ).1), (mo_pm k i (σ 8 k 0).toNatClampNeg σ).2) = _
          rw [hpm]
          unfold mo_pm
          rw [if_neg h1, if_neg h2, if_neg h3, if_neg e5])
        refine ⟨f + 40, sw_ws_wp [39] f 40 _ _ _ _ ?_⟩
        exact And.intro trivial (And.intro (fun _ => And.intro v25 (And.intro (fun _ => And.intro v22 (And.intro (fun z => absurd z h3) (fun _ => hf))) (fun z => absurd z h2))) (fun z => absurd z h1))
set_option maxRecDepth 100000 in
theorem mX8_pump {l : Launch} {ad : sw_A} {V : Nat → Nat → Prop} {ln : sw_A} {ca : Nat → ClassId} {D : va_G} (hG : sw_wf ad V sw_rf ln) : sw_met l ad V sw_rf ln ca D yX8_pump cX8_pump 4 (some .int) { frames := 3, cells := 0, slots := 0, locals := 73 } 2 (fX8_pump ln) := by
  refine sw_meth hG (by decide) (by refine ⟨?_, ?_, ?_, ?_⟩ <;> intro h <;> first | rfl | exact ⟨_, rfl⟩ | exact absurd h (by decide)) (by decide) kX8_pump flX8_in cnX8_in ?_ (sw_foi_h (W := fun Q L σ => ∃ fuel, wX8_pump ln Q fuel 0 L [] σ) (fun a0 a1 σ h => hX8_pump ln a0 a1 σ h))
  intro p e s m args below meth c S hT hnw
  refine List.forall_mem_cons.mpr ⟨sw_cokS S hT hnw (mX8_isSide hG) 133 ⟨by decide +kernel, by decide +kernel, by decide +kernel, by decide +kernel⟩ ⟨rfl, by decide, by decide, by decide +kernel⟩ ⟨rfl, rfl⟩ ⟨by decide, by decide⟩, ?_⟩
  refine List.forall_mem_cons.mpr ⟨sw_cokV S hT hnw (mX8_beginFrame hG) 166 8 (by decide) ⟨by decide +kernel, by decide +kernel, by decide +kernel, by decide +kernel, by decide +kernel⟩ ⟨rfl, by decide, by decide, by decide +kernel⟩ ⟨rfl, rfl⟩ ⟨by decide, by decide⟩, ?_⟩
  refine List.forall_mem_cons.mpr ⟨sw_cokV S hT hnw (mX8_add hG) 160 8 (by decide) ⟨by decide +kernel, by decide +kernel, by decide +kernel, by decide +kernel, by decide +kernel⟩ ⟨rfl, by decide, by decide, by decide +kernel⟩ ⟨rfl, rfl⟩ ⟨by decide, by decide⟩, ?_⟩
  refine List.forall_mem_cons.mpr ⟨sw_cokV S hT hnw (mX8_finish hG) 170 8 (by decide) ⟨by decide +kernel, by decide +kernel, by decide +kernel, by decide +kernel, by decide +kernel⟩ ⟨rfl, by decide, by decide, by decide +kernel⟩ ⟨rfl, rfl⟩ ⟨by decide, by decide⟩, ?_⟩
  refine List.forall_mem_cons.mpr ⟨sw_cokV S hT hnw (mX8_hasSome hG) 173 8 (by decide) ⟨by decide +kernel, by decide +kernel, by decide +kernel, by decide +kernel, by decide +kernel⟩ ⟨rfl, by decide, by decide, by decide +kernel⟩ ⟨rfl, rfl⟩ ⟨by decide, by decide⟩, ?_⟩
  refine List.forall_mem_cons.mpr ⟨sw_cokV S hT hnw (mX8_sendOf hG) 176 8 (by decide) ⟨by decide +kernel, by decide +kernel, by decide +kernel, by decide +kernel, by decide +kernel⟩ ⟨rfl, by decide, by decide, by decide +kernel⟩ ⟨rfl, rfl⟩ ⟨by decide, by decide⟩, ?_⟩
  exact fun q h => absurd h List.not_mem_nil
abbrev mo_pv (k : Nat) (i : Int32) (σ : sw_S) : wi_P := mo_pm k i (σ 8 k 0).toNatClampNeg σ
def mo_dl (k : Nat) (i : Int32) : Nat → Int32 → sw_S → wi_P
  | 0, x, σ => (x, σ)
  | d + 1, x, σ => if (mo_pv k i σ).1 = 0 then (x, (mo_pv k i σ).2) else mo_dl k i d (x + 1) (mo_pv k i σ).2
def mo_dq (ln : sw_A) (k : Nat) (i : Int32) : Nat → sw_S → Prop
  | 0, _ => True
  | d + 1, σ => (gX8_pump ln k i σ).1 ∧ (¬ (mo_pv k i σ).1 = 0 → mo_dq ln k i d (mo_pv k i σ).2)
def mo_dn (k : Nat) (i n : Int32) (σ : sw_S) : wi_P := if mo_is i = 0 then (-1, σ) else if n < 0 then (-1, σ) else if n ≤ 1000 then mo_dl k i n.toNatClampNeg 0 σ else (-1, σ)
def gX8_drain (ln : sw_A) (k : Nat) (i n : Int32) (σ : sw_S) : sw_X := (¬ mo_is i = 0 → mo_dq ln k i n.toNatClampNeg σ, some (.inl (mo_dn k i n σ).1), (mo_dn k i n σ).2)
def fX8_drain (ln : sw_A) : sw_F := sw_foii 8 (gX8_drain ln)
def ctX8_drain (ln : sw_A) : sw_C := [(133, 1, 0, fX8_isSide ln), (180, 2, 9, fX8_pump ln)]
abbrev wX8_drain (ln : sw_A) (Q : Option sw_V → sw_S → Prop) : Nat → Nat → sw_L → List sw_V → sw_S → Prop := sw_wp sw_rf ln (ctX8_drain ln) sX8_drain 1 42 tX8_drain Q
theorem hX8_drain_l (ln : sw_A) (k n : Nat) (i : Int32) (X : sw_X) (hn : n < 2 ^ 31) : ∀ (d j : Nat) (σ : sw_S), j + d = n → mo_dq ln k i d σ → X.2 = (some (.inl (mo_dl k i d (nI j) σ).1), (mo_dl k i d (nI j) σ).2) → ∃ fuel, wX8_drain ln (sw_end X) fuel 22 [some (.inr (some (8, k))), some (.inl i), some (.inl (nI n)), some (.inl (nI j))] [] σ := by
  intro d
  induction d with
  | zero =>
    intro j σ hj hd hX
    have hj : j = n := by omega
    subst hj
    refine ⟨20, And.intro (fun _ => ?_) (fun (h : ¬ nI j ≤ nI j) => absurd (Int32.le_refl _) h)⟩
    show some _ = X.2.1 ∧ σ = X.2.2
    rw [hX]
    exact ⟨rfl, rfl⟩
  | succ d ih =>
    intro j σ hj hd hX
    by_cases h1 : (mo_pv k i σ).1 = 0
    · refine ⟨20, And.intro (fun (h : nI n ≤ nI j) => absurd h (nI_ge (a := j) (b := n) (by omega) hn)) (fun _ => And.intro hd.1 (And.intro (fun _ => ?_) (fun z => absurd h1 z)))⟩
      show some _ = X.2.1 ∧ (mo_pv k i σ).2 = X.2.2
      rw [hX, show mo_dl k i (d + 1) (nI j) σ = _ from if_pos h1]
      exact ⟨rfl, rfl⟩
    · obtain ⟨f, hf⟩ := ih (j + 1) (mo_pv k i σ).2 (by omega) (hd.2 h1) (by rw [hX, show mo_dl k i (d + 1) (nI j) σ = _ from if_neg h1, nI_1])
      rw [← nI_1] at hf
      refine ⟨f + 20, sw_ws_wp [22] f 20 _ _ _ _ ?_⟩
      exact And.intro (fun (h : nI n ≤ nI j) => absurd h (nI_ge (a := j) (b := n) (by omega) hn)) (fun _ => And.intro hd.1 (And.intro (fun z => absurd z h1) (fun _ => hf)))
theorem hX8_drain (ln : sw_A) (k : Nat) (i n : Int32) (σ : sw_S) (h : (gX8_drain ln k i n σ).1) : ∃ fuel, wX8_drain ln (sw_end (gX8_drain ln k i n σ)) fuel 0 (sw_ent 4 [.inr (some (8, k)), .inl i, .inl n]) [] σ := by
  by_cases h1 : mo_is i = 0
  · exact ⟨20, And.intro trivial (And.intro (fun _ => sw_pe (if_pos h1)) (fun z => absurd h1 z))⟩
  · have h := h h1
    by_cases a1 : n < 0
    · exact ⟨20, And.intro trivial (And.intro (fun z => absurd z h1) (fun _ => And.intro (fun _ => sw_pe ((if_neg h1).trans (if_pos a1))) (fun z => absurd a1 z)))⟩
    · by_cases a2 : n ≤ 1000
      · obtain ⟨m, hm, rfl⟩ := nI_of a1
        rw [nI_clamp hm] at h
        obtain ⟨f, hf⟩ := hX8_drain_l ln k m i (gX8_drain ln k i (nI m) σ) hm m 0 σ (by omega) h (by
          show (some (Sum.inl (mo_dn k i (nI m) σ).1), (mo_dn k i (nI m) σ).2) = _
          unfold mo_dn
          rw [if_neg h1, if_neg a1, if_pos a2, nI_clamp hm, nI_0])
        refine ⟨f + 20, sw_ws_wp [22] f 20 _ _ _ _ ?_⟩
        exact And.intro trivial (And.intro (fun z => absurd z h1) (fun _ => And.intro (fun z => absurd z a1) (fun _ => And.intro (fun _ => hf) (fun z => absurd a2 z))))
      · exact ⟨20, And.intro trivial (And.intro (fun z => absurd z h1) (fun _ => And.intro (fun z => absurd z a1) (fun _ => And.intro (fun z => absurd z a2) (fun _ => sw_pe ((if_neg h1).trans ((if_neg a1).trans (if_neg a2)))))))⟩
set_option maxRecDepth 100000 in
theorem mX8_drain {l : Launch} {ad : sw_A} {V : Nat → Nat → Prop} {ln : sw_A} {ca : Nat → ClassId} {D : va_G} (hG : sw_wf ad V sw_rf ln) : sw_met l ad V sw_rf ln ca D yX8_drain cX8_drain 4 (some .int) { frames := 4, cells := 0, slots := 0, locals := 96 } 3 (fX8_drain ln) := by
  refine sw_meth hG (by decide) (by refine ⟨?_, ?_, ?_, ?_⟩ <;> intro h <;> first | rfl | exact ⟨_, rfl⟩ | exact absurd h (by decide)) (by decide) kX8_drain flX8_in cnX8_in ?_ (sw_foii_h (W := fun Q L σ => ∃ fuel, wX8_drain ln Q fuel 0 L [] σ) (fun a0 a1 a2 σ h => hX8_drain ln a0 a1 a2 σ h))
  intro p e s m args below meth c S hT hnw
  refine List.forall_mem_cons.mpr ⟨sw_cokS S hT hnw (mX8_isSide hG) 133 ⟨by decide +kernel, by decide +kernel, by decide +kernel, by decide +kernel⟩ ⟨rfl, by decide, by decide, by decide +kernel⟩ ⟨rfl, rfl⟩ ⟨by decide, by decide⟩, ?_⟩
  refine List.forall_mem_cons.mpr ⟨sw_cokV S hT hnw (mX8_pump hG) 180 8 (by decide) ⟨by decide +kernel, by decide +kernel, by decide +kernel, by decide +kernel, by decide +kernel⟩ ⟨rfl, by decide, by decide, by decide +kernel⟩ ⟨rfl, rfl⟩ ⟨by decide, by decide⟩, ?_⟩
  exact fun q h => absurd h List.not_mem_nil
