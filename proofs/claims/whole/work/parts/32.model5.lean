/-! The reference: sendOf as a whole -/
theorem mo_bf_s (k : Nat) (i kd t ct : Int32) (σ : sw_S) : mo_bf k i kd t ct σ 8 k 39 = 1 := sw_upe _ _ _ _ _
theorem mo_bf_k (k : Nat) (i kd t ct : Int32) (σ : sw_S) {c k' : Nat} (h : ¬ (c = 15 ∧ k' = 38)) (h8 : ¬ c = 8) (j' : Nat) : mo_bf k i kd t ct σ c k' j' = σ c k' j' := (sw_upk _ h8).trans (if_neg (fun z => h ⟨z.1, z.2.1⟩))
theorem mo_d2_k (k n : Nat) (x : Int32) (s : sw_S) {c k' : Nat} (h : ¬ (c = 15 ∧ k' = 38)) (h8 : ¬ c = 8) (j' : Nat) : mo_d2 k n x s c k' j' = s c k' j' := (mo_aw_k k x h h8 j' n _).trans (mo_ad_k k _ s h h8 j')
set_option maxHeartbeats 4000000 in
theorem hX8_sendOf (ln : sw_A) (k : Nat) (i t : Int32) (σ : sw_S) (h : (gX8_sendOf ln k i t σ).1) : ∃ fuel, wX8_sendOf ln (sw_end (gX8_sendOf ln k i t σ)) fuel 0 (sw_ent 7 [.inr (some (8, k)), .inl i, .inl t]) [] σ := by
  obtain ⟨hm, hbo, hi, hx, hd, hf⟩ := h
  obtain ⟨x, hxe⟩ : ∃ x, x = mo_ix i t := ⟨_, rfl⟩
  rw [← hxe] at hx hd hf
  have v11 := hm.z (j := 11) rfl hx
  have v12 := hm.z (j := 12) rfl hx
  have v16 := hm.i (j := 16) rfl hx
  have v8 := hm.i (j := 8) rfl hx
  have k309 : ∃ M, ∀ b v4 v5 v6, b = mo_so k i t x σ → wX8_sendOf ln (sw_end (gX8_sendOf ln k i t σ)) M 309 (mo_LS k i t x v4 v5 v6) [] b := by
    refine ⟨10, fun b v4 v5 v6 hb => ?_⟩
    subst hb
    refine And.intro hf ⟨rfl, ?_⟩
    show mo_fi k i (mo_so k i t x σ) = mo_fi k i (mo_so k i t (mo_ix i t) σ)
    rw [hxe]
  obtain ⟨M, k309⟩ := k309
  have k7 : ∃ M, wX8_sendOf ln (sw_end (gX8_sendOf ln k i t σ)) M 7 (mo_LS k i t x none none none) [] σ := by
    by_cases h1 : mb σ 11 x = 0
    · by_cases h2 : mi σ 16 x ≤ 0
      · refine ⟨M + 40, sw_ws_wp [309] M 40 _ _ _ _ ?_⟩
        exact And.intro v11 (And.intro (fun _ => And.intro v16 (And.intro (fun _ => And.intro v12 (And.intro (Or.inl rfl) (And.intro ⟨hm, hi⟩ (k309 _ _ _ _ ((if_pos h1).trans (if_pos h2)).symm)))) (fun z => absurd h2 z))) (fun z => absurd h1 z))
      · obtain ⟨n, q, hn, hnq, hq, hqn, hqe, hb⟩ := hd h2
        have hso : mo_so k i t x σ = mo_d4 k n x (nI n) (mo_bf k i 1 t (nI n) σ) := by
          unfold mo_so
          rw [if_pos h1, if_neg h2]
          unfold mo_dd
          rw [hqn, nI_clamp (by omega)]
        obtain ⟨s, hs⟩ : ∃ s, s = mo_bf k i 1 t (nI n) σ := ⟨_, rfl⟩
        rw [← hs] at hso
        have hs39 : s 8 k 39 = nI 1 := by rw [hs]; exact mo_bf_s k i 1 t (nI n) σ
        have hsk : ∀ {c k' : Nat}, ¬ (c = 15 ∧ k' = 38) → ¬ c = 8 → ∀ j', s c k' j' = σ c k' j' := fun a b j' => by rw [hs]; exact mo_bf_k k i 1 t (nI n) σ a b j'
        have hb2 : ∀ j, j < n → vp_in (mo_rx x j) 6400 := fun j hj => hb j (by omega)
        have e3 : mi (mo_d3 k n x (nI n) s) 16 x = nI (q - n) := by
          rw [show mi (mo_d3 k n x (nI n) s) 16 x = mi (mo_d2 k n x s) 16 x - nI n from sw_upe _ _ _ _ _, show mi (mo_d2 k n x s) 16 x = mi s 16 x from mo_d2_k k n x s (by decide) (by decide) _, show mi s 16 x = mi σ 16 x from hsk (by decide) (by decide) _, hqe, pk_sub hnq]
        have hbo3 : ∀ y, sw_bo (mo_d3 k n x (nI n) s 16 18 y) := fun y => by
          rw [show mo_d3 k n x (nI n) s 16 18 y = mo_d2 k n x s 16 18 y by unfold mo_d3 mo_s3; exact sw_upk _ (by decide), mo_d2_k k n x s (by decide) (by decide), hsk (by decide) (by decide)]
          exact hbo y
        have k280 : ∃ M2, ∀ b v5 v6, b = mo_sh x (nI n) (q - n) (mo_d3 k n x (nI n) s) → wX8_sendOf ln (sw_end (gX8_sendOf ln k i t σ)) M2 280 (mo_LS k i t x (some (.inl (nI n))) v5 v6) [] b := by
          refine ⟨M + 20, fun b v5 v6 hb4 => sw_ws_wp [309] M 20 _ _ _ _ ?_⟩
          refine And.intro v8 (And.intro v8 (k309 _ _ _ _ ?_))
          rw [hso, hb4]
          unfold mo_d4
          rw [e3, nI_clamp (by omega)]
          rfl
        obtain ⟨M2, k280⟩ := k280
        obtain ⟨v5, hv5⟩ : ∃ v5 : Option sw_V, v5 = some (.inl (mo_bi x s n)) := ⟨_, rfl⟩
        obtain ⟨f1, hf1⟩ := hX8_sendOf_h ln k n (q - n) i t x v5 (mo_d3 k n x (nI n) s) (gX8_sendOf ln k i t σ) hm hx (by omega) e3 hbo3 (fun j hj => hb j (by omega)) M2 (k280 _ _ _ rfl) (q - n) 0 (by omega)
        have k191 : wX8_sendOf ln (sw_end (gX8_sendOf ln k i t σ)) (f1 + 20) 191 (mo_LS k i t x (some (.inl (nI n))) v5 (some (.inl (nI n)))) [] (mo_aw k x n (mo_ad k (mo_bi x s n) s)) := by
          refine sw_ws_wp [205] f1 20 _ _ _ _ ?_
          exact And.intro v16 (And.intro v16 hf1)
        obtain ⟨M3, hM3⟩ : ∃ M3, M3 = f1 + 20 := ⟨_, rfl⟩
        rw [← hM3] at k191
        obtain ⟨f2, hf2⟩ := hX8_sendOf_w ln k n i t x v5 (mo_ad k (mo_bi x s n) s) (gX8_sendOf ln k i t σ) hm hn (by rw [mo_ad_s, hs39]; rfl) hb2 M3 k191 n 0 (by omega)
        have k152 : wX8_sendOf ln (sw_end (gX8_sendOf ln k i t σ)) (f2 + 20) 152 (mo_LS k i t x (some (.inl (nI n))) (some (.inl (mo_bi x s n))) (some (.inl (nI n)))) [] s := by
          refine sw_ws_wp [161] f2 20 _ _ _ _ ?_
          rw [hv5] at hf2
          exact And.intro ⟨hm, by rw [hs39]; exact vp_in_nI (by decide) (by decide)⟩ hf2
        obtain ⟨M4, hM4⟩ : ∃ M4, M4 = f2 + 20 := ⟨_, rfl⟩
        rw [← hM4] at k152
        obtain ⟨f3, hf3⟩ := hX8_sendOf_b ln k n i t x s (gX8_sendOf ln k i t σ) hm hn hb2 M4 k152 n 0 (by omega)
        have k93 : ∃ M5, ∀ v v4, v = nI n → wX8_sendOf ln (sw_end (gX8_sendOf ln k i t σ)) M5 93 (mo_LS k i t x v4 none none) [.inl v] σ := by
          refine ⟨f3 + 20, fun v v4 hv => sw_ws_wp [110] f3 20 _ _ _ _ ?_⟩
          subst hv
          rw [hs] at hf3
          exact And.intro ⟨hm, hi⟩ hf3
        obtain ⟨M5, k93⟩ := k93
        have k73 : ∃ M6, ∀ v, v = mo_q1 x σ → wX8_sendOf ln (sw_end (gX8_sendOf ln k i t σ)) M6 73 (mo_LS k i t x none none none) [.inl v] σ := by
          refine ⟨M5 + 20, fun v hv => sw_ws_wp [93] M5 20 _ _ _ _ ?_⟩
          refine And.intro (fun (a1 : σ 8 k 1 ≤ v) => k93 _ _ ?_) (fun (a1 : ¬ σ 8 k 1 ≤ v) => k93 _ _ ?_)
          · rw [hv] at a1
            rw [← hqn]
            exact (if_pos a1).symm
          · rw [hv] at a1
            rw [← hqn, hv]
            exact (if_neg a1).symm
        obtain ⟨M6, k73⟩ := k73
        refine ⟨M6 + 40, sw_ws_wp [73] M6 40 _ _ _ _ ?_⟩
        exact And.intro v11 (And.intro (fun _ => And.intro v16 (And.intro (fun z => absurd z h2) (fun _ => And.intro v16 (And.intro v8 (And.intro (fun (a1 : mi σ 8 x ≤ mi σ 16 x) => And.intro v8 (k73 _ (if_pos a1).symm)) (fun (a1 : ¬ mi σ 8 x ≤ mi σ 16 x) => And.intro v16 (k73 _ (if_neg a1).symm))))))) (fun z => absurd h1 z))
    · refine ⟨M + 40, sw_ws_wp [309] M 40 _ _ _ _ ?_⟩
      exact And.intro v11 (And.intro (fun z => absurd z h1) (fun _ => And.intro v11 (And.intro (Or.inl rfl) (And.intro ⟨hm, hi⟩ (k309 _ _ _ _ (if_neg h1).symm)))))
  obtain ⟨M7, k7⟩ := k7
  refine ⟨M7 + 10, sw_ws_wp [7] M7 10 _ _ _ _ ?_⟩
  rw [hxe] at k7
  exact k7
set_option maxRecDepth 100000 in
theorem mX8_sendOf {l : Launch} {ad : sw_A} {V : Nat → Nat → Prop} {ln : sw_A} {ca : Nat → ClassId} {D : va_G} (hG : sw_wf ad V sw_rf ln) : sw_met l ad V sw_rf ln ca D yX8_sendOf cX8_sendOf 7 none { frames := 2, cells := 0, slots := 0, locals := 47 } 3 (fX8_sendOf ln) := by
  refine sw_meth hG (by decide) (by refine ⟨?_, ?_, ?_, ?_⟩ <;> intro h <;> first | rfl | exact ⟨_, rfl⟩ | exact absurd h (by decide)) (by decide) kX8_sendOf flX8_in cnX8_in ?_ (sw_foii_h (W := fun Q L σ => ∃ fuel, wX8_sendOf ln Q fuel 0 L [] σ) (fun a0 a1 a2 σ h => hX8_sendOf ln a0 a1 a2 σ h))
  intro p e s m args below meth c S hT hnw
  refine List.forall_mem_cons.mpr ⟨sw_cokV S hT hnw (mX8_beginFrame hG) 166 8 (by decide) ⟨by decide +kernel, by decide +kernel, by decide +kernel, by decide +kernel, by decide +kernel⟩ ⟨rfl, by decide, by decide, by decide +kernel⟩ ⟨rfl, rfl⟩ ⟨by decide, by decide⟩, ?_⟩
  refine List.forall_mem_cons.mpr ⟨sw_cokV S hT hnw (mX8_add hG) 160 8 (by decide) ⟨by decide +kernel, by decide +kernel, by decide +kernel, by decide +kernel, by decide +kernel⟩ ⟨rfl, by decide, by decide, by decide +kernel⟩ ⟨rfl, rfl⟩ ⟨by decide, by decide⟩, ?_⟩
  refine List.forall_mem_cons.mpr ⟨sw_cokV S hT hnw (mX8_finish hG) 170 8 (by decide) ⟨by decide +kernel, by decide +kernel, by decide +kernel, by decide +kernel, by decide +kernel⟩ ⟨rfl, by decide, by decide, by decide +kernel⟩ ⟨rfl, rfl⟩ ⟨by decide, by decide⟩, ?_⟩
  exact fun q h => absurd h List.not_mem_nil
