/-! Side: sending again -/
theorem add_3 (ln : sw_A) (r f : Nat) (σ : sw_S) {k' : Nat} (h : ¬ k' = r) (j' : Nat) : (gX3_add ln r f σ).2.2 3 k' j' = σ 3 k' j' := by
  show rg_ad ln r f σ (rg_as ln r σ) 3 k' j' = _
  cases rg_as ln r σ with
  | none => rfl
  | some q => exact (sw_upi _ h).trans (copy_k ln q.2 f σ (by decide) (by decide) k' j')
theorem sd_sd_3 (ln : sw_A) (s : Nat) (σ : sw_S) {k' : Nat} (h : ¬ k' = 2 * s + 1) (j' : Nat) : sd_sd ln s σ 3 k' j' = σ 3 k' j' := (sw_upk _ (by decide)).trans ((sw_upk _ (by decide)).trans (add_3 ln _ _ σ h j'))
theorem renew_k (ln : sw_A) (k : Nat) (x : Int32) (σ : sw_S) {c : Nat} (h2 : ¬ c = 2) (h12 : ¬ c = 12) (k' j' : Nat) : (gX2_renew ln k x σ).2.2 c k' j' = σ c k' j' := (seal_k ln k _ h2 h12 k' j').trans ((sw_upk _ h2).trans (flip_k ln k _ _ σ h12 k' j'))
def sd_a1 (ln : sw_A) (s q : Nat) (σ : sw_S) : sw_S := (gX2_copyFrom ln (128 + s) q σ).2.2
def sd_a2 (ln : sw_A) (s q : Nat) (σ : sw_S) : sw_S := (gX2_renew ln (128 + s) (sd_a1 ln s q σ 6 s 6) (sd_a1 ln s q σ)).2.2
def sd_a3 (ln : sw_A) (s q : Nat) (σ : sw_S) : sw_S := sd_sd ln s (sd_a2 ln s q σ)
theorem sd_a3_go {ln : sw_A} {σ : sw_S} (hl : lo ln) (h : fg ln σ) (s q : Nat) : fg ln (sd_a1 ln s q σ) ∧ fg ln (sd_a2 ln s q σ) ∧ fg ln (sd_a3 ln s q σ) := by
  have h1 : fg ln (sd_a1 ln s q σ) := (copy_go hl h (128 + s) q).2
  have h2 : fg ln (sd_a2 ln s q σ) := (renew_go hl h1 (128 + s) _).2
  exact ⟨h1, h2, sd_sd_go hl h2 s⟩
theorem sd_a3_3 (ln : sw_A) (s q : Nat) (σ : sw_S) (j' : Nat) : sd_a3 ln s q σ 3 (2 * s) j' = σ 3 (2 * s) j' := (sd_sd_3 ln s _ (by omega) j').trans ((renew_k ln _ _ _ (by decide) (by decide) _ j').trans (copy_k ln _ q σ (by decide) (by decide) _ j'))
def sd_om {α : Type} (a : α) (g : Nat × Nat → α) : Option (Nat × Nat) → α
  | none => a
  | some q => g q
def sd_ag (ln : sw_A) (s : Nat) : Nat → Nat → Int32 → sw_S → Int32 × sw_S
  | 0, _, x, σ => (x, σ)
  | d + 1, j, x, σ => if rg_ro ln (2 * s + 1) σ = 0 then (x, σ) else sd_om (sd_ag ln s d (j + 1) x σ) (fun q => sd_ag ln s d (j + 1) (x + 1) (sd_a3 ln s q.2 σ)) (rg_fa ln (2 * s) (nI j) σ)
def gX6_sendAgain (ln : sw_A) (s : Nat) (σ : sw_S) : sw_X := (lo ln ∧ fg ln σ ∧ 0 ≤ σ 3 (2 * s) 2, some (.inl (sd_ag ln s (σ 3 (2 * s) 2).toNatClampNeg 0 0 σ).1), (sd_ag ln s (σ 3 (2 * s) 2).toNatClampNeg 0 0 σ).2)
def fX6_sendAgain (ln : sw_A) : sw_F := sw_fo 6 (gX6_sendAgain ln)
def ctX6_sendAgain (ln : sw_A) : sw_C := [(120, 1, 4, fX3_size ln), (128, 1, 4, fX3_hasRoom ln), (121, 2, 4, fX3_frameAt ln), (236, 2, 3, fX2_copyFrom ln), (239, 2, 3, fX2_renew ln), (230, 1, 7, fX6_sendDraft ln)]
abbrev wX6_sendAgain (ln : sw_A) (Q : Option sw_V → sw_S → Prop) : Nat → Nat → sw_L → List sw_V → sw_S → Prop := sw_wp sw_rf ln (ctX6_sendAgain ln) sX6_sendAgain 1 71 tX6_sendAgain Q
theorem hX6_sendAgain_l (ln : sw_A) (s n : Nat) (X : sw_X) (hn : n < 2 ^ 31) (hl : lo ln) : ∀ (d j : Nat) (x : Int32) (σ : sw_S) (x3 : Option sw_V), j + d = n → fg ln σ → σ 3 (2 * s) 2 = nI n → X.2 = (some (.inl (sd_ag ln s d j x σ).1), (sd_ag ln s d j x σ).2) → ∃ fuel, wX6_sendAgain ln (sw_end X) fuel 4 [some (.inr (some (6, s))), some (.inl x), some (.inl (nI j)), x3] [] σ := by
  intro d
  induction d with
  | zero =>
    intro j x σ x3 hj hg hz hX
    have hj : j = n := by omega
    subst hj
    refine ⟨20, And.intro trivial (And.intro (fun _ => ?_) (fun (h : ¬ σ 3 (2 * s) 2 ≤ nI j) => absurd (by rw [hz]; exact Int32.le_refl _) h))⟩
    show some _ = X.2.1 ∧ σ = X.2.2
    rw [hX]
    exact ⟨rfl, rfl⟩
  | succ d ih =>
    intro j x σ x3 hj hg hz hX
    by_cases h1 : rg_ro ln (2 * s + 1) σ = 0
    · refine ⟨30, And.intro trivial (And.intro (fun (h : σ 3 (2 * s) 2 ≤ nI j) => absurd (by rw [← hz]; exact h) (nI_ge (a := j) (b := n) (by omega) hn)) (fun _ => And.intro trivial (And.intro (fun _ => ?_) (fun z => absurd h1 z))))⟩
      show some _ = X.2.1 ∧ σ = X.2.2
      rw [hX, show sd_ag ln s (d + 1) j x σ = _ from if_pos h1]
      exact ⟨rfl, rfl⟩
    · have key : ∃ M, ∀ r, r = rg_fa ln (2 * s) (nI j) σ → wX6_sendAgain ln (sw_end X) M 33 [some (.inr (some (6, s))), some (.inl x), some (.inl (nI j)), x3] [.inr r] σ := by
        obtain ⟨r0, hr0⟩ : ∃ r0, r0 = rg_fa ln (2 * s) (nI j) σ := ⟨_, rfl⟩
        have hag : sd_ag ln s (d + 1) j x σ = sd_om (sd_ag ln s d (j + 1) x σ) (fun q => sd_ag ln s d (j + 1) (x + 1) (sd_a3 ln s q.2 σ)) r0 := by
          rw [hr0]
          exact if_neg h1
        cases r0 with
        | none =>
          obtain ⟨f, hf⟩ := ih (j + 1) x σ (some (.inr none)) (by omega) hg hz (by rw [hX, hag]; rfl)
          rw [← nI_1] at hf
          refine ⟨f + 30, fun r hr => sw_ws_wp [4] f 30 _ _ _ _ ?_⟩
          have hr : r = none := hr.trans hr0.symm
          subst hr
          exact hf
        | some q =>
          obtain ⟨q1, q2⟩ := q
          have e1 : q1 = 2 := rg_fa_2 hr0.symm
          subst e1
          have hgo := sd_a3_go hl hg s q2
          obtain ⟨f, hf⟩ := ih (j + 1) (x + 1) (sd_a3 ln s q2 σ) (some (.inr (some (2, q2)))) (by omega) hgo.2.2 (by rw [sd_a3_3]; exact hz) (by rw [hX, hag]; rfl)
          rw [← nI_1] at hf
          refine ⟨f + 30, fun r hr => sw_ws_wp [4] f 30 _ _ _ _ ?_⟩
          have hr : r = some (2, q2) := hr.trans hr0.symm
          subst hr
          exact And.intro (copy_go hl hg (128 + s) q2).1 (And.intro (renew_go hl hgo.1 (128 + s) _).1 (And.intro ⟨hl, hgo.2.1⟩ hf))
      obtain ⟨M, key⟩ := key
      refine ⟨M + 30, sw_ws_wp [33] M 30 _ _ _ _ ?_⟩
      exact And.intro trivial (And.intro (fun (h : σ 3 (2 * s) 2 ≤ nI j) => absurd (by rw [← hz]; exact h) (nI_ge (a := j) (b := n) (by omega) hn)) (fun _ => And.intro trivial (And.intro (fun z => absurd z h1) (fun _ => And.intro (hl.1 13 (2 * s)) (key _ rfl)))))
theorem hX6_sendAgain (ln : sw_A) (s : Nat) (σ : sw_S) (h : (gX6_sendAgain ln s σ).1) : ∃ fuel, wX6_sendAgain ln (sw_end (gX6_sendAgain ln s σ)) fuel 0 (sw_ent 4 [.inr (some (6, s))]) [] σ := by
  obtain ⟨n, hn, hz⟩ := nI_of (Int32.not_lt.mpr h.2.2)
  obtain ⟨f, hf⟩ := hX6_sendAgain_l ln s n (gX6_sendAgain ln s σ) hn h.1 n 0 0 σ none (by omega) h.2.1 hz (by
    show (some (Sum.inl (sd_ag ln s (σ 3 (2 * s) 2).toNatClampNeg 0 0 σ).1), (sd_ag ln s (σ 3 (2 * s) 2).toNatClampNeg 0 0 σ).2) = _
    rw [hz, nI_clamp hn])
  exact ⟨f + 10, sw_ws_wp [4] f 10 _ _ _ _ hf⟩
set_option maxRecDepth 100000 in
theorem mX6_sendAgain {l : Launch} {ad : sw_A} {V : Nat → Nat → Prop} {ln : sw_A} {ca : Nat → ClassId} {D : va_G} (hG : sw_wf ad V sw_rf ln) : sw_met l ad V sw_rf ln ca D yX6_sendAgain cX6_sendAgain 4 (some .int) { frames := 4, cells := 0, slots := 0, locals := 87 } 1 (fX6_sendAgain ln) := by
  refine sw_meth hG (by decide) (by refine ⟨?_, ?_, ?_, ?_⟩ <;> intro h <;> first | rfl | exact ⟨_, rfl⟩ | exact absurd h (by decide)) (by decide) kX6_sendAgain flX6_in cnX6_in ?_ (sw_fo_h (W := fun Q L σ => ∃ fuel, wX6_sendAgain ln Q fuel 0 L [] σ) (fun a0 σ h => hX6_sendAgain ln a0 σ h))
  intro p e s m args below meth c S hT hnw
  refine List.forall_mem_cons.mpr ⟨sw_cokV S hT hnw (mX3_size hG) 120 3 (by decide) ⟨by decide +kernel, by decide +kernel, by decide +kernel, by decide +kernel, by decide +kernel⟩ ⟨rfl, by decide, by decide, by decide +kernel⟩ ⟨rfl, rfl⟩ ⟨by decide, by decide⟩, ?_⟩
  refine List.forall_mem_cons.mpr ⟨sw_cokV S hT hnw (mX3_hasRoom hG) 128 3 (by decide) ⟨by decide +kernel, by decide +kernel, by decide +kernel, by decide +kernel, by decide +kernel⟩ ⟨rfl, by decide, by decide, by decide +kernel⟩ ⟨rfl, rfl⟩ ⟨by decide, by decide⟩, ?_⟩
  refine List.forall_mem_cons.mpr ⟨sw_cokV S hT hnw (mX3_frameAt hG) 121 3 (by decide) ⟨by decide +kernel, by decide +kernel, by decide +kernel, by decide +kernel, by decide +kernel⟩ ⟨rfl, by decide, by decide, by decide +kernel⟩ ⟨rfl, rfl⟩ ⟨by decide, by decide⟩, ?_⟩
  refine List.forall_mem_cons.mpr ⟨sw_cokV S hT hnw (mX2_copyFrom hG) 236 2 (by decide) ⟨by decide +kernel, by decide +kernel, by decide +kernel, by decide +kernel, by decide +kernel⟩ ⟨rfl, by decide, by decide, by decide +kernel⟩ ⟨rfl, rfl⟩ ⟨by decide, by decide⟩, ?_⟩
  refine List.forall_mem_cons.mpr ⟨sw_cokV S hT hnw (mX2_renew hG) 239 2 (by decide) ⟨by decide +kernel, by decide +kernel, by decide +kernel, by decide +kernel, by decide +kernel⟩ ⟨rfl, by decide, by decide, by decide +kernel⟩ ⟨rfl, rfl⟩ ⟨by decide, by decide⟩, ?_⟩
  refine List.forall_mem_cons.mpr ⟨sw_cokV S hT hnw (mX6_sendDraft hG) 230 6 (by decide) ⟨by decide +kernel, by decide +kernel, by decide +kernel, by decide +kernel, by decide +kernel⟩ ⟨rfl, by decide, by decide, by decide +kernel⟩ ⟨rfl, rfl⟩ ⟨by decide, by decide⟩, ?_⟩
  exact fun q h => absurd h List.not_mem_nil
