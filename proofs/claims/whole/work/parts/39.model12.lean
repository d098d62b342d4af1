/-! The reference: deliver -/
def md_1 (k : Nat) (i : Int32) (σ : sw_S) : sw_S := sw_up σ 8 k 39 (mi σ 26 (20 * i))
def md_c (k : Nat) (i : Int32) (σ : sw_S) : sw_S := mt_c 27 (380 * i) (mi σ 26 (20 * i)).toNatClampNeg (md_1 k i σ)
def md_a (k : Nat) (i : Int32) (σ : sw_S) : sw_S := mo_dr i (md_c k i σ)
def md_p (t : Int32) (a : sw_S) : sw_S := mis a 35 t (mi a 35 t + 1)
def md_b (k : Nat) (t : Int32) (a : sw_S) : sw_S := mo_cf k t (mv_wa a) a
def md_l (t : Int32) (b : sw_S) : sw_S := mbs (mis b 36 t (mi b 36 t + 1)) 32 t 1
abbrev md_x (t : Int32) (b : sw_S) : Int32 := mo_ix t (mo_sn b)
def md_w (k : Nat) (t : Int32) (c : sw_S) : sw_S := mis c 29 t (sw_rem (mi c 29 t + 1) (c 8 k 2 + 1))
def md_t (t : Int32) (c : sw_S) : sw_S := mbs (mis c 34 t (mi c 34 t + 1)) 32 t 1
def md_r (k : Nat) (t : Int32) (b : sw_S) : wi_P :=
  if mo_kd b = 0 then (3, b) else if mv_nu b = mi b 29 t then (if mo_ca k (md_x t b) b = 0 then (2, md_p t b) else (1, md_t t (md_w k t (mo_ta k (md_x t b) b)))) else (4, md_l t b)
def md_q (k : Nat) (t : Int32) (a : sw_S) : wi_P := if mv_f k a = 0 then (2, md_p t a) else md_r k t (md_b k t a)
def md (k : Nat) (i : Int32) (σ : sw_S) : wi_P := if mo_is i = 0 then (-1, σ) else if mi σ 25 i = 0 then (0, σ) else md_q k (1 - i) (md_a k i σ)
def md_rp (ln : sw_A) (k : Nat) (t : Int32) (b : sw_S) : Prop := ¬ mo_kd b = 0 → mv_nu b = mi b 29 t → vp_in (md_x t b) 16 ∧ (¬ mo_ca k (md_x t b) b = 0 → (gX8_take ln k t b).1 ∧ ¬ mo_ta k (md_x t b) b 8 k 2 + 1 = 0)
def md_qp (ln : sw_A) (k : Nat) (t : Int32) (a : sw_S) : Prop := (gX8_isFrame ln k a).1 ∧ (¬ mv_f k a = 0 → mo_cfp k t (mv_wa a) a ∧ md_rp ln k t (md_b k t a))
def gX8_deliver (ln : sw_A) (k : Nat) (i : Int32) (σ : sw_S) : sw_X := (mo ln ∧ (¬ mo_is i = 0 → ∃ s : Nat, s < 2 ∧ i = nI s ∧ (¬ mi σ 25 i = 0 → (∃ z : Nat, z ≤ 19 ∧ mi σ 26 (20 * i) = nI z) ∧ mo_op2 i (md_c k i σ) ∧ md_qp ln k (1 - i) (md_a k i σ))), some (.inl (md k i σ).1), (md k i σ).2)
def fX8_deliver (ln : sw_A) : sw_F := sw_foi 8 (gX8_deliver ln)
def ctX8_deliver (ln : sw_A) : sw_C := [(133, 1, 0, fX8_isSide ln), (194, 2, 9, fX8_dropOldest ln), (197, 1, 9, fX8_isFrame ln), (201, 3, 9, fX8_confirm ln), (183, 1, 9, fX8_kind ln), (204, 2, 9, fX8_canBe ln), (207, 2, 9, fX8_take ln)]
abbrev wX8_deliver (ln : sw_A) (Q : Option sw_V → sw_S → Prop) : Nat → Nat → sw_L → List sw_V → sw_S → Prop := sw_wp sw_rf ln (ctX8_deliver ln) sX8_deliver 1 227 tX8_deliver Q
theorem hX8_deliver_i (ln : sw_A) (k s z : Nat) (σ : sw_S) (X : sw_X) (hm : mo ln) (hs : s < 2) (hz19 : z ≤ 19) (hz : σ 8 k 39 = nI z) (M : Nat) (hM : wX8_deliver ln (sw_end X) M 67 [some (.inr (some (8, k))), some (.inl (nI s)), some (.inl (nI z))] [] (mt_c 27 (380 * nI s) z σ)) : ∀ (d j : Nat), j + d = z → ∃ fuel, wX8_deliver ln (sw_end X) fuel 35 [some (.inr (some (8, k))), some (.inl (nI s)), some (.inl (nI j))] [] (mt_c 27 (380 * nI s) j σ) := by
  intro d
  induction d with
  | zero =>
    intro j hj
    have hj : j = z := by omega
    subst hj
    have hl : mt_c 27 (380 * nI s) j σ 8 k 39 = nI j := (mt_c_k 27 _ (fun z => absurd z.1 (by decide)) 39 j σ).trans hz
    refine ⟨M + 20, sw_ws_wp [67] M 20 _ _ _ _ ?_⟩
    exact And.intro (fun _ => hM) (fun (h : ¬ mt_c 27 (380 * nI s) j σ 8 k 39 ≤ nI j) => absurd (by rw [hl]; exact Int32.le_refl _) h)
  | succ d ih =>
    intro j hj
    have hl : mt_c 27 (380 * nI s) j σ 8 k 39 = nI z := (mt_c_k 27 _ (fun z => absurd z.1 (by decide)) 39 j σ).trans hz
    have v1 := hm.i (j := 38) (n := 19) rfl (vp_in_nI (n := j) (by omega) (by omega))
    have v2 : vp_in (380 * nI s + nI j) 760 := by
      rw [show (380 : Int32) * nI s = nI (380 * s) from pk_mul 380 s, nI_add]
      exact vp_in_nI (by omega) (by decide)
    obtain ⟨f, hf⟩ := ih (j + 1) (by omega)
    rw [← nI_1] at hf
    refine ⟨f + 40, sw_ws_wp [35] f 40 _ _ _ _ ?_⟩
    exact And.intro (fun (h : mt_c 27 (380 * nI s) j σ 8 k 39 ≤ nI j) => absurd (by rw [← hl]; exact h) (nI_ge (a := j) (b := z) (by omega) (by omega))) (fun _ => And.intro (hm.i (j := 27) rfl v2) (And.intro v1 hf))
theorem hX8_deliver (ln : sw_A) (k : Nat) (i : Int32) (σ : sw_S) (h : (gX8_deliver ln k i σ).1) : ∃ fuel, wX8_deliver ln (sw_end (gX8_deliver ln k i σ)) fuel 0 (sw_ent 3 [.inr (some (8, k)), .inl i]) [] σ := by
  obtain ⟨hm, hp⟩ := h
  by_cases h1 : mo_is i = 0
  · exact ⟨20, And.intro trivial (And.intro (fun z => absurd h1 z) (fun _ => sw_pe (if_pos h1)))⟩
  · obtain ⟨s, hs, rfl, hp⟩ := hp h1
    have hi : vp_in (nI s) 2 := vp_in_nI hs (by decide)
    have v25 := hm.i (j := 25) rfl hi
    have v26 : vp_in (20 * nI s) (ln 15 26) := hm.i (j := 26) rfl (by
      rw [show (20 : Int32) * nI s = nI (20 * s) from pk_mul 20 s]
      exact vp_in_nI (n := 20 * s) (N := 40) (by omega) (by decide))
    have w0 := hm.i (j := 38) rfl vp_0_19
    by_cases h2 : mi σ 25 (nI s) = 0
    · exact ⟨20, And.intro trivial (And.intro (fun _ => And.intro v25 (And.intro (fun z => absurd h2 z) (fun _ => sw_pe ((if_neg h1).trans (if_pos h2))))) (fun z => absurd z h1))⟩
    · obtain ⟨⟨z, hz, hze⟩, hop, hqp⟩ := hp h2
      have hmd : md k (nI s) σ = md_q k (1 - nI s) (md_a k (nI s) σ) := (if_neg h1).trans (if_neg h2)
      obtain ⟨X, hXe⟩ : ∃ X, X = gX8_deliver ln k (nI s) σ := ⟨_, rfl⟩
      have hX : X.2 = (some (.inl (md_q k (1 - nI s) (md_a k (nI s) σ)).1), (md_q k (1 - nI s) (md_a k (nI s) σ)).2) := by rw [hXe, ← hmd]; rfl
      rw [← hXe]
      obtain ⟨a, ha⟩ : ∃ a, a = md_a k (nI s) σ := ⟨_, rfl⟩
      have ht : vp_in (1 - nI s) 2 := by
        match s, hs with
        | 0, _ => rw [show (1 : Int32) - nI 0 = nI 1 by decide]; exact vp_in_nI (by decide) (by decide)
        | 1, _ => rw [show (1 : Int32) - nI 1 = nI 0 by decide]; exact vp_in_nI (by decide) (by decide)
      obtain ⟨t, htt⟩ : ∃ t, t = 1 - nI s := ⟨_, rfl⟩
      rw [← ha, ← htt] at hX hqp
      rw [← htt] at ht
      obtain ⟨hif, hqp⟩ := hqp
      have v35 := hm.i (j := 35) rfl ht
      have v36 := hm.i (j := 36) rfl ht
      have v34 := hm.i (j := 34) rfl ht
      have v29 := hm.i (j := 29) rfl ht
      have v32 := hm.z (j := 32) rfl ht
      have fin : ∀ (v : Int32) (b : sw_S), (v, b) = md_q k t a → some (Sum.inl v) = X.2.1 ∧ b = X.2.2 := fun v b hv => by rw [hX, ← hv]; exact ⟨rfl, rfl⟩
      have k76 : ∃ M, ∀ b, b = a → wX8_deliver ln (sw_end X) M 76 [some (.inr (some (8, k))), some (.inl (nI s)), some (.inl t)] [] b := by
        refine ⟨80, fun b hb => ?_⟩
        subst hb
        refine And.intro hif (And.intro (fun (h3 : ¬ mv_f k b = 0) => ?_) (fun (h3 : mv_f k b = 0) => And.intro v35 (And.intro v35 (fin _ _ (if_pos h3).symm))))
        obtain ⟨hcf, hrp⟩ := hqp h3
        have hmq : md_q k t b = md_r k t (md_b k t b) := if_neg h3
        refine And.intro w0 (And.intro ⟨hm, hcf⟩ (And.intro hm (And.intro (fun (h4 : ¬ mo_kd (md_b k t b) = 0) => ?_) (fun (h4 : mo_kd (md_b k t b) = 0) => fin _ _ (hmq.trans (if_pos h4)).symm))))
        refine And.intro w0 (And.intro v29 (And.intro (fun (h5 : mv_nu (md_b k t b) = mi (md_b k t b) 29 t) => ?_) (fun (h5 : ¬ mv_nu (md_b k t b) = mi (md_b k t b) 29 t) => And.intro v36 (And.intro v36 (And.intro v32 (And.intro (Or.inr rfl) (fin _ _ (hmq.trans ((if_neg h4).trans (if_neg h5))).symm)))))))
        obtain ⟨hx, htk⟩ := hrp h4 h5
        refine And.intro ⟨hm, hx⟩ (And.intro (fun (h6 : ¬ mo_ca k (md_x t (md_b k t b)) (md_b k t b) = 0) => ?_) (fun (h6 : mo_ca k (md_x t (md_b k t b)) (md_b k t b) = 0) => And.intro v35 (And.intro v35 (fin _ _ (hmq.trans ((if_neg h4).trans ((if_pos h5).trans (if_pos h6)))).symm))))
        obtain ⟨h7, h8⟩ := htk h6
        exact And.intro h7 (And.intro v29 (And.intro h8 (And.intro v29 (And.intro v34 (And.intro v34 (And.intro v32 (And.intro (Or.inr rfl) (fin _ _ (hmq.trans ((if_neg h4).trans ((if_pos h5).trans (if_neg h6)))).symm))))))))
      obtain ⟨M, k76⟩ := k76
      have k67 : ∃ M, ∀ v2 c, c = md_c k (nI s) σ → wX8_deliver ln (sw_end X) M 67 [some (.inr (some (8, k))), some (.inl (nI s)), v2] [] c := by
        refine ⟨M + 20, fun v2 c hc => sw_ws_wp [76] M 20 _ _ _ _ ?_⟩
        subst hc
        rw [htt] at k76
        exact And.intro ⟨hm, hop⟩ (k76 _ ha.symm)
      obtain ⟨M2, k67⟩ := k67
      have ec : mt_c 27 (380 * nI s) z (md_1 k (nI s) σ) = md_c k (nI s) σ := by
        unfold md_c
        rw [hze, nI_clamp (by omega)]
      obtain ⟨g, hg⟩ := hX8_deliver_i ln k s z (md_1 k (nI s) σ) X hm hs hz ((sw_upe _ _ _ _ _).trans hze) M2 (k67 _ _ ec) z 0 (by omega)
      rw [nI_0] at hg
      refine ⟨g + 40, sw_ws_wp [35] g 40 _ _ _ _ ?_⟩
      exact And.intro trivial (And.intro (fun _ => And.intro v25 (And.intro (fun _ => And.intro v26 hg) (fun z => absurd z h2))) (fun z => absurd z h1))
set_option maxRecDepth 100000 in
theorem mX8_deliver {l : Launch} {ad : sw_A} {V : Nat → Nat → Prop} {ln : sw_A} {ca : Nat → ClassId} {D : va_G} (hG : sw_wf ad V sw_rf ln) : sw_met l ad V sw_rf ln ca D yX8_deliver cX8_deliver 3 (some .int) { frames := 2, cells := 0, slots := 0, locals := 49 } 2 (fX8_deliver ln) := by
  refine sw_meth hG (by decide) (by refine ⟨?_, ?_, ?_, ?_⟩ <;> intro h <;> first | rfl | exact ⟨_, rfl⟩ | exact absurd h (by decide)) (by decide) kX8_deliver flX8_in cnX8_in ?_ (sw_foi_h (W := fun Q L σ => ∃ fuel, wX8_deliver ln Q fuel 0 L [] σ) (fun a0 a1 σ h => hX8_deliver ln a0 a1 σ h))
  intro p e s m args below meth c S hT hnw
  refine List.forall_mem_cons.mpr ⟨sw_cokS S hT hnw (mX8_isSide hG) 133 ⟨by decide +kernel, by decide +kernel, by decide +kernel, by decide +kernel⟩ ⟨rfl, by decide, by decide, by decide +kernel⟩ ⟨rfl, rfl⟩ ⟨by decide, by decide⟩, ?_⟩
  refine List.forall_mem_cons.mpr ⟨sw_cokV S hT hnw (mX8_dropOldest hG) 194 8 (by decide) ⟨by decide +kernel, by decide +kernel, by decide +kernel, by decide +kernel, by decide +kernel⟩ ⟨rfl, by decide, by decide, by decide +kernel⟩ ⟨rfl, rfl⟩ ⟨by decide, by decide⟩, ?_⟩
  refine List.forall_mem_cons.mpr ⟨sw_cokV S hT hnw (mX8_isFrame hG) 197 8 (by decide) ⟨by decide +kernel, by decide +kernel, by decide +kernel, by decide +kernel, by decide +kernel⟩ ⟨rfl, by decide, by decide, by decide +kernel⟩ ⟨rfl, rfl⟩ ⟨by decide, by decide⟩, ?_⟩
  refine List.forall_mem_cons.mpr ⟨sw_cokV S hT hnw (mX8_confirm hG) 201 8 (by decide) ⟨by decide +kernel, by decide +kernel, by decide +kernel, by decide +kernel, by decide +kernel⟩ ⟨rfl, by decide, by decide, by decide +kernel⟩ ⟨rfl, rfl⟩ ⟨by decide, by decide⟩, ?_⟩
  refine List.forall_mem_cons.mpr ⟨sw_cokV S hT hnw (mX8_kind hG) 183 8 (by decide) ⟨by decide +kernel, by decide +kernel, by decide +kernel, by decide +kernel, by decide +kernel⟩ ⟨rfl, by decide, by decide, by decide +kernel⟩ ⟨rfl, rfl⟩ ⟨by decide, by decide⟩, ?_⟩
  refine List.forall_mem_cons.mpr ⟨sw_cokV S hT hnw (mX8_canBe hG) 204 8 (by decide) ⟨by decide +kernel, by decide +kernel, by decide +kernel, by decide +kernel, by decide +kernel⟩ ⟨rfl, by decide, by decide, by decide +kernel⟩ ⟨rfl, rfl⟩ ⟨by decide, by decide⟩, ?_⟩
  refine List.forall_mem_cons.mpr ⟨sw_cokV S hT hnw (mX8_take hG) 207 8 (by decide) ⟨by decide +kernel, by decide +kernel, by decide +kernel, by decide +kernel, by decide +kernel⟩ ⟨rfl, by decide, by decide, by decide +kernel⟩ ⟨rfl, rfl⟩ ⟨by decide, by decide⟩, ?_⟩
  exact fun q h => absurd h List.not_mem_nil
