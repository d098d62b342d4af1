/-! The reference: whether the frame in hand is one -/
def mv_wt (σ : sw_S) : Int32 := if mo_kd σ = 1 then 3 + mo_ct σ else if mo_kd σ = 2 then 3 else 2
abbrev mv_nu (σ : sw_S) : Int32 := sw_ushr (mi σ 38 0) 8 &&& 255
abbrev mv_wa (σ : sw_S) : Int32 := sw_ushr (mi σ 38 0) 16 &&& 255
def mv_g (k : Nat) (σ : sw_S) : Int32 := if 4 < mo_kd σ then 0 else if σ 8 k 39 = mv_wt σ then (if mi σ 38 (σ 8 k 39 - 1) = sm (mi σ 38) (σ 8 k 39 - 1).toNatClampNeg then (if σ 8 k 0 ≤ mo_sn σ then 0 else if σ 8 k 2 < mv_nu σ then 0 else if σ 8 k 2 < mv_wa σ then 0 else 1) else 0) else 0
theorem mv_g_bo (k : Nat) (σ : sw_S) : sw_bo (mv_g k σ) := by
  unfold mv_g
  repeat' split
  all_goals first | exact Or.inl rfl | exact Or.inr rfl
def mv_2 (k : Nat) (σ : sw_S) : Int32 := if mo_ct σ < 1 then 0 else if σ 8 k 1 < mo_ct σ then 0 else if sw_ushr (mi σ 38 1) (mo_ct σ) = 0 then 1 else 0
def mv_i (σ : sw_S) (j : Nat) : Int32 := if mi σ 38 1 >>> (nI j &&& 31) &&& 1 = 0 then 1 else if mi σ 38 (2 + nI j) = 0 then 1 else 0
def mv_l (σ : sw_S) : Nat → Nat → Int32 → Int32
  | 0, _, g => g
  | d + 1, j, g => if g = 0 then 0 else mv_l σ d (j + 1) (mv_i σ j)
def mv_k (σ : sw_S) : Int32 := if mo_kd σ = 0 then (if mi σ 38 0 &&& 65528 = 0 then 1 else 0) else if mo_kd σ = 2 then (if mi σ 38 1 ≤ 0 then 0 else 1) else 1
def mv_f (k : Nat) (σ : sw_S) : Int32 := if mv_g k σ = 0 then 0 else if mo_kd σ = 1 then mv_l σ (mo_ct σ).toNatClampNeg 0 (mv_2 k σ) else if mo_ct σ = 0 then mv_k σ else 0
def gX8_isFrame (ln : sw_A) (k : Nat) (σ : sw_S) : sw_X := (mo ln ∧ σ 8 k 1 ≤ 16 ∧ ∃ n : Nat, n < 19 ∧ σ 8 k 39 - 1 = nI n, some (.inl (mv_f k σ)), σ)
def fX8_isFrame (ln : sw_A) : sw_F := sw_fo 8 (gX8_isFrame ln)
def ctX8_isFrame (ln : sw_A) : sw_C := [(183, 1, 9, fX8_kind ln), (187, 1, 9, fX8_countIn ln), (157, 2, 9, fX8_sumOf ln), (190, 1, 9, fX8_streamIn ln)]
abbrev wX8_isFrame (ln : sw_A) (Q : Option sw_V → sw_S → Prop) : Nat → Nat → sw_L → List sw_V → sw_S → Prop := sw_wp sw_rf ln (ctX8_isFrame ln) sX8_isFrame 2 264 tX8_isFrame Q
theorem hX8_isFrame_l (ln : sw_A) (k n : Nat) (kd : Int32) (σ : sw_S) (X : sw_X) (hm : mo ln) (hn : n < 256) : ∀ (d j : Nat) (g : Int32), j + d = n → sw_bo g → (¬ g = 0 → n ≤ 16) → X.2 = (some (.inl (mv_l σ d j g)), σ) → ∃ fuel, ∀ wt, wX8_isFrame ln (sw_end X) fuel 212 [some (.inr (some (8, k))), some (.inl kd), some (.inl (nI n)), some (.inl wt), some (.inl g), some (.inl (nI j))] [] σ := by
  intro d
  induction d with
  | zero =>
    intro j g hj hg _ hX
    have hj : j = n := by omega
    subst hj
    refine ⟨20, fun wt => And.intro (fun _ => ⟨hg, ?_⟩) (fun (h : ¬ nI j ≤ nI j) => absurd (Int32.le_refl _) h)⟩
    show some _ = X.2.1 ∧ σ = X.2.2
    rw [hX]
    exact ⟨rfl, rfl⟩
  | succ d ih =>
    intro j g hj hg h16 hX
    have hlt : ¬ nI n ≤ nI j := nI_ge (a := j) (b := n) (by omega) (by omega)
    by_cases h0 : g = 0
    · refine ⟨20, fun wt => And.intro (fun h => absurd h hlt) (fun _ => And.intro (fun _ => ⟨hg, ?_⟩) (fun z => absurd h0 z))⟩
      show some (Sum.inl g) = X.2.1 ∧ σ = X.2.2
      rw [hX, show mv_l σ (d + 1) j g = 0 from if_pos h0, h0]
      exact ⟨rfl, rfl⟩
    · have w1 := hm.i (j := 38) rfl vp_1_19
      have v2 : vp_in (2 + nI j) 19 := by
        have := h16 h0
        rw [show (2 : Int32) + nI j = nI (2 + j) from nI_add 2 j]
        exact vp_in_nI (by omega) (by decide)
      have v2 := hm.i (j := 38) rfl v2
      have hb : sw_bo (mv_i σ j) := by
        unfold mv_i
        repeat' split
        all_goals first | exact Or.inl rfl | exact Or.inr rfl
      obtain ⟨f, hf⟩ := ih (j + 1) (mv_i σ j) (by omega) hb (fun _ => h16 h0) (by rw [hX]; exact congrArg (fun z => (some (Sum.inl z), σ)) (if_neg h0))
      rw [← nI_1] at hf
      have k254 : ∃ M, ∀ wt v, v = mv_i σ j → wX8_isFrame ln (sw_end X) M 254 [some (.inr (some (8, k))), some (.inl kd), some (.inl (nI n)), some (.inl wt), some (.inl g), some (.inl (nI j))] [.inl v] σ := by
        refine ⟨f + 10, fun wt v hv => sw_ws_wp [212] f 10 _ _ _ _ ?_⟩
        subst hv
        exact hf wt
      obtain ⟨M, k254⟩ := k254
      refine ⟨M + 40, fun wt => sw_ws_wp [254] M 40 _ _ _ _ ?_⟩
      exact And.intro (fun h => absurd h hlt) (fun _ => And.intro (fun z => absurd z h0) (fun _ => And.intro w1 (And.intro (fun (a1 : mi σ 38 1 >>> (nI j &&& 31) &&& 1 = 0) => k254 _ _ (if_pos a1).symm) (fun (a1 : ¬ mi σ 38 1 >>> (nI j &&& 31) &&& 1 = 0) => And.intro v2 (And.intro (fun (a2 : ¬ mi σ 38 (2 + nI j) = 0) => k254 _ _ ((if_neg a1).trans (if_neg a2)).symm) (fun (a2 : mi σ 38 (2 + nI j) = 0) => k254 _ _ ((if_neg a1).trans (if_pos a2)).symm))))))
theorem hX8_isFrame (ln : sw_A) (k : Nat) (σ : sw_S) (h : (gX8_isFrame ln k σ).1) : ∃ fuel, wX8_isFrame ln (sw_end (gX8_isFrame ln k σ)) fuel 0 (sw_ent 6 [.inr (some (8, k))]) [] σ := by
  obtain ⟨hm, hmo, q, hq, hz⟩ := h
  obtain ⟨n, hn, hc⟩ := sw_ushr24 (mi σ 38 0)
  have hc : mo_ct σ = nI n := hc
  have w0 := hm.i (j := 38) rfl vp_0_19
  have w1 := hm.i (j := 38) rfl vp_1_19
  have wl : vp_in (σ 8 k 39 - 1) (ln 15 38) := hm.i (j := 38) (n := 19) rfl (by rw [hz]; exact vp_in_nI hq (by decide))
  have sp : mo ln ∧ (0 : Int32) ≤ σ 8 k 39 - 1 ∧ σ 8 k 39 - 1 ≤ 19 := by
    refine ⟨hm, ?_, ?_⟩
    · rw [hz, ← nI_0]; exact nI_le (by omega) (by omega)
    · rw [hz]; exact (nI_leI (by omega) (b := 19) (by decide)).mpr (by omega)
  obtain ⟨X, hXe⟩ : ∃ X, X = gX8_isFrame ln k σ := ⟨_, rfl⟩
  have hX : X.2 = (some (.inl (mv_f k σ)), σ) := by rw [hXe]; rfl
  rw [← hXe]
  have fin : ∀ v, v = mv_f k σ → some (Sum.inl v) = X.2.1 ∧ σ = X.2.2 := fun v hv => by rw [hX, hv]; exact ⟨rfl, rfl⟩
  have k262 : ∃ M, ∀ (g : Int32) (wt v5), sw_bo g → g = mv_f k σ → wX8_isFrame ln (sw_end X) M 262 [some (.inr (some (8, k))), some (.inl (mo_kd σ)), some (.inl (mo_ct σ)), some (.inl wt), some (.inl g), v5] [] σ :=
    ⟨10, fun g wt v5 hg he => ⟨hg, fin _ he⟩⟩
  obtain ⟨M1, k262⟩ := k262
  have k173 : ∃ M, ∀ (wt v5), ¬ mv_g k σ = 0 → (mo_kd σ = 1 ∨ (¬ mo_kd σ = 1 ∧ mv_f k σ = mv_g k σ)) → wX8_isFrame ln (sw_end X) M 173 [some (.inr (some (8, k))), some (.inl (mo_kd σ)), some (.inl (mo_ct σ)), some (.inl wt), some (.inl (mv_g k σ)), v5] [] σ := by
    by_cases hg0 : mv_g k σ = 0
    · exact ⟨0, fun _ _ z => absurd hg0 z⟩
    by_cases h1 : mo_kd σ = 1
    · have hf : mv_f k σ = mv_l σ n 0 (mv_2 k σ) := by
        unfold mv_f
        rw [if_neg hg0, if_pos h1, hc, nI_clamp (by omega)]
      have hb : sw_bo (mv_2 k σ) := by
        unfold mv_2
        repeat' split
        all_goals first | exact Or.inl rfl | exact Or.inr rfl
      have h16 : ¬ mv_2 k σ = 0 → n ≤ 16 := by
        intro z
        by_cases a1 : mo_ct σ < 1
        · exact absurd (if_pos a1) z
        · by_cases a2 : σ 8 k 1 < mo_ct σ
          · exact absurd ((if_neg a1).trans (if_pos a2)) z
          · have := Int32.le_trans (Int32.not_lt.mp a2) hmo
            rw [hc] at this
            exact (nI_leI (by omega) (b := 16) (by decide)).mp this
      have k207 : ∃ M, ∀ wt v5 v, v = mv_2 k σ → wX8_isFrame ln (sw_end X) M 207 [some (.inr (some (8, k))), some (.inl (mo_kd σ)), some (.inl (mo_ct σ)), some (.inl wt), some (.inl (mv_g k σ)), v5] [.inl v] σ := by
        obtain ⟨f, hl⟩ := hX8_isFrame_l ln k n (mo_kd σ) σ X hm hn n 0 (mv_2 k σ) (by omega) hb h16 (by rw [hX, hf])
        refine ⟨f + 10, fun wt v5 v hv => sw_ws_wp [212] f 10 _ _ _ _ ?_⟩
        subst hv
        have := hl wt
        rw [← hc, nI_0] at this
        exact this
      obtain ⟨M2, k207⟩ := k207
      refine ⟨M2 + 40, fun wt v5 _ _ => sw_ws_wp [207] M2 40 _ _ _ _ ?_⟩
      exact And.intro (fun z => absurd h1 z) (fun _ => And.intro (fun (a1 : mo_ct σ < 1) => k207 _ _ _ (if_pos a1).symm) (fun (a1 : ¬ mo_ct σ < 1) => And.intro (fun (a2 : σ 8 k 1 < mo_ct σ) => k207 _ _ _ ((if_neg a1).trans (if_pos a2)).symm) (fun (a2 : ¬ σ 8 k 1 < mo_ct σ) => And.intro w1 (And.intro (fun (a3 : ¬ sw_ushr (mi σ 38 1) (mo_ct σ) = 0) => k207 _ _ _ ((if_neg a1).trans ((if_neg a2).trans (if_neg a3))).symm) (fun (a3 : sw_ushr (mi σ 38 1) (mo_ct σ) = 0) => k207 _ _ _ ((if_neg a1).trans ((if_neg a2).trans (if_pos a3))).symm)))))
    · refine ⟨M1 + 20, fun wt v5 _ he => sw_ws_wp [262] M1 20 _ _ _ _ ?_⟩
      rcases he with he | he
      · exact absurd he h1
      · exact And.intro (fun _ => k262 _ _ _ (mv_g_bo k σ) he.2.symm) (fun z => absurd z h1)
  obtain ⟨M3, k173⟩ := k173
  have k125 : ∃ M, ∀ wt v4 v5 v, v = mv_g k σ → wX8_isFrame ln (sw_end X) M 125 [some (.inr (some (8, k))), some (.inl (mo_kd σ)), some (.inl (mo_ct σ)), some (.inl wt), v4, v5] [.inl v] σ := by
    refine ⟨M3 + 60, fun wt v4 v5 v hv => sw_ws_wp [173] M3 60 _ _ _ _ ?_⟩
    subst hv
    by_cases hg0 : mv_g k σ = 0
    · exact And.intro (fun _ => ⟨Or.inl rfl, fin _ (if_pos hg0).symm⟩) (fun z => absurd hg0 z)
    · have hg1 : mv_g k σ = 1 := (mv_g_bo k σ).resolve_left hg0
      refine And.intro (fun z => absurd z hg0) (fun _ => ?_)
      by_cases h1 : mo_kd σ = 1
      · have n0 : ¬ mo_kd σ = 0 := fun z => by rw [h1] at z; exact absurd z (by decide)
        have n2 : ¬ mo_kd σ = 2 := fun z => by rw [h1] at z; exact absurd z (by decide)
        have k := k173 wt v5 hg0 (Or.inl h1)
        exact And.intro (fun _ => And.intro (fun _ => And.intro (fun _ => k) (fun z => absurd z n2)) (fun z => absurd z n0)) (fun z => absurd h1 z)
      · have hf : mv_f k σ = if mo_ct σ = 0 then mv_k σ else 0 := by
          unfold mv_f
          rw [if_neg hg0, if_neg h1]
        refine And.intro (fun z => absurd z h1) (fun _ => ?_)
        refine And.intro (fun (c0 : ¬ mo_ct σ = 0) => ⟨Or.inl rfl, fin _ (hf.trans (if_neg c0)).symm⟩) (fun (c0 : mo_ct σ = 0) => ?_)
        have hf := hf.trans (if_pos c0)
        by_cases h0 : mo_kd σ = 0
        · have n2 : ¬ mo_kd σ = 2 := fun z => by rw [h0] at z; exact absurd z (by decide)
          refine And.intro (fun z => absurd h0 z) (fun _ => And.intro w0 (And.intro (fun (b1 : ¬ mi σ 38 0 &&& 65528 = 0) => ⟨Or.inl rfl, fin _ (hf.trans ((if_pos h0).trans (if_neg b1))).symm⟩) (fun (b1 : mi σ 38 0 &&& 65528 = 0) => And.intro (fun _ => k173 wt v5 hg0 (Or.inr ⟨h1, ?_⟩)) (fun z => absurd z n2))))
          exact (hf.trans ((if_pos h0).trans (if_pos b1))).trans hg1.symm
        · refine And.intro (fun _ => ?_) (fun z => absurd z h0)
          by_cases h2 : mo_kd σ = 2
          · refine And.intro (fun z => absurd h2 z) (fun _ => And.intro w1 (And.intro (fun (b1 : 0 < mi σ 38 1) => k173 wt v5 hg0 (Or.inr ⟨h1, ?_⟩)) (fun (b1 : ¬ 0 < mi σ 38 1) => ⟨Or.inl rfl, fin _ (hf.trans ((if_neg h0).trans ((if_pos h2).trans (if_pos (Int32.not_lt.mp b1))))).symm⟩)))
            exact (hf.trans ((if_neg h0).trans ((if_pos h2).trans (if_neg (Int32.not_le.mpr b1))))).trans hg1.symm
          · refine And.intro (fun _ => k173 wt v5 hg0 (Or.inr ⟨h1, ?_⟩)) (fun z => absurd z h2)
            exact (hf.trans ((if_neg h0).trans (if_neg h2))).trans hg1.symm
  obtain ⟨M4, k125⟩ := k125
  have k31 : ∃ M, ∀ v3 v4 v5 v, v = mv_wt σ → wX8_isFrame ln (sw_end X) M 31 [some (.inr (some (8, k))), some (.inl (mo_kd σ)), some (.inl (mo_ct σ)), v3, v4, v5] [.inl v] σ := by
    refine ⟨M4 + 60, fun v3 v4 v5 v hv => sw_ws_wp [125] M4 60 _ _ _ _ ?_⟩
    subst hv
    exact And.intro (fun (a1 : 4 < mo_kd σ) => k125 _ _ _ _ (if_pos a1).symm) (fun (a1 : ¬ 4 < mo_kd σ) => And.intro (fun (a2 : ¬ σ 8 k 39 = mv_wt σ) => k125 _ _ _ _ ((if_neg a1).trans (if_neg a2)).symm) (fun (a2 : σ 8 k 39 = mv_wt σ) => And.intro wl (And.intro sp (And.intro (fun (a3 : ¬ mi σ 38 (σ 8 k 39 - 1) = sm (mi σ 38) (σ 8 k 39 - 1).toNatClampNeg) => k125 _ _ _ _ ((if_neg a1).trans ((if_pos a2).trans (if_neg a3))).symm) (fun (a3 : mi σ 38 (σ 8 k 39 - 1) = sm (mi σ 38) (σ 8 k 39 - 1).toNatClampNeg) => And.intro hm (And.intro (fun (a4 : σ 8 k 0 ≤ mo_sn σ) => k125 _ _ _ _ ((if_neg a1).trans ((if_pos a2).trans ((if_pos a3).trans (if_pos a4)))).symm) (fun (a4 : ¬ σ 8 k 0 ≤ mo_sn σ) => And.intro w0 (And.intro (fun (a5 : σ 8 k 2 < mv_nu σ) => k125 _ _ _ _ ((if_neg a1).trans ((if_pos a2).trans ((if_pos a3).trans ((if_neg a4).trans (if_pos a5))))).symm) (fun (a5 : ¬ σ 8 k 2 < mv_nu σ) => And.intro w0 (And.intro (fun (a6 : σ 8 k 2 < mv_wa σ) => k125 _ _ _ _ ((if_neg a1).trans ((if_pos a2).trans ((if_pos a3).trans ((if_neg a4).trans ((if_neg a5).trans (if_pos a6)))))).symm) (fun (a6 : ¬ σ 8 k 2 < mv_wa σ) => k125 _ _ _ _ ((if_neg a1).trans ((if_pos a2).trans ((if_pos a3).trans ((if_neg a4).trans ((if_neg a5).trans (if_neg a6)))))).symm)))))))))))
  obtain ⟨M5, k31⟩ := k31
  refine ⟨M5 + 40, sw_ws_wp [31] M5 40 _ _ _ _ ?_⟩
  exact And.intro hm (And.intro hm (And.intro (fun (a1 : ¬ mo_kd σ = 1) => And.intro (fun (a2 : ¬ mo_kd σ = 2) => k31 _ _ _ _ ((if_neg a1).trans (if_neg a2)).symm) (fun (a2 : mo_kd σ = 2) => k31 _ _ _ _ ((if_neg a1).trans (if_pos a2)).symm)) (fun (a1 : mo_kd σ = 1) => k31 _ _ _ _ (if_pos a1).symm)))
set_option maxRecDepth 100000 in
theorem mX8_isFrame {l : Launch} {ad : sw_A} {V : Nat → Nat → Prop} {ln : sw_A} {ca : Nat → ClassId} {D : va_G} (hG : sw_wf ad V sw_rf ln) : sw_met l ad V sw_rf ln ca D yX8_isFrame cX8_isFrame 6 (some .boolean) { frames := 1, cells := 0, slots := 0, locals := 24 } 1 (fX8_isFrame ln) := by
  refine sw_meth hG (by decide) (by refine ⟨?_, ?_, ?_, ?_⟩ <;> intro h <;> first | rfl | exact ⟨_, rfl⟩ | exact absurd h (by decide)) (by decide) kX8_isFrame flX8_in cnX8_in ?_ (sw_fo_h (W := fun Q L σ => ∃ fuel, wX8_isFrame ln Q fuel 0 L [] σ) (fun a0 σ h => hX8_isFrame ln a0 σ h))
  intro p e s m args below meth c S hT hnw
  refine List.forall_mem_cons.mpr ⟨sw_cokV S hT hnw (mX8_kind hG) 183 8 (by decide) ⟨by decide +kernel, by decide +kernel, by decide +kernel, by decide +kernel, by decide +kernel⟩ ⟨rfl, by decide, by decide, by decide +kernel⟩ ⟨rfl, rfl⟩ ⟨by decide, by decide⟩, ?_⟩
  refine List.forall_mem_cons.mpr ⟨sw_cokV S hT hnw (mX8_countIn hG) 187 8 (by decide) ⟨by decide +kernel, by decide +kernel, by decide +kernel, by decide +kernel, by decide +kernel⟩ ⟨rfl, by decide, by decide, by decide +kernel⟩ ⟨rfl, rfl⟩ ⟨by decide, by decide⟩, ?_⟩
  refine List.forall_mem_cons.mpr ⟨sw_cokV S hT hnw (mX8_sumOf hG) 157 8 (by decide) ⟨by decide +kernel, by decide +kernel, by decide +kernel, by decide +kernel, by decide +kernel⟩ ⟨rfl, by decide, by decide, by decide +kernel⟩ ⟨rfl, rfl⟩ ⟨by decide, by decide⟩, ?_⟩
  refine List.forall_mem_cons.mpr ⟨sw_cokV S hT hnw (mX8_streamIn hG) 190 8 (by decide) ⟨by decide +kernel, by decide +kernel, by decide +kernel, by decide +kernel, by decide +kernel⟩ ⟨rfl, by decide, by decide, by decide +kernel⟩ ⟨rfl, rfl⟩ ⟨by decide, by decide⟩, ?_⟩
  exact fun q h => absurd h List.not_mem_nil
