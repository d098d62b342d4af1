/-! Side: what is sent next -/
theorem put_k (ln : sw_A) (k : Nat) (x : Int32) (σ : sw_S) {c : Nat} (h2 : ¬ c = 2) (h12 : ¬ c = 12) (k' j' : Nat) : (gX2_put ln k x σ).2.2 c k' j' = σ c k' j' := by
  show (if σ 2 k 1 < nI (ln 12 k) then sw_up (sw_up σ 12 k (σ 2 k 1).toNatClampNeg x) 2 k 1 (σ 2 k 1 + 1) else σ) c k' j' = _
  split
  · rw [sw_upk _ h2, sw_upk _ h12]
  · rfl
theorem flip_k (ln : sw_A) (k : Nat) (i x : Int32) (σ : sw_S) {c : Nat} (h12 : ¬ c = 12) (k' j' : Nat) : (gX2_flip ln k i x σ).2.2 c k' j' = σ c k' j' := by
  show (if 0 ≤ i ∧ i < σ 2 k 1 then sw_up σ 12 k i.toNatClampNeg _ else σ) c k' j' = _
  split
  · rw [sw_upk _ h12]
  · rfl
theorem begin_k (ln : sw_A) (k : Nat) (x : Int32) (σ : sw_S) {c : Nat} (h2 : ¬ c = 2) (h12 : ¬ c = 12) (k' j' : Nat) : (gX2_begin ln k x σ).2.2 c k' j' = σ c k' j' := (put_k ln k x _ h2 h12 k' j').trans (sw_upk _ h2)
theorem seal_k (ln : sw_A) (k : Nat) (σ : sw_S) {c : Nat} (h2 : ¬ c = 2) (h12 : ¬ c = 12) (k' j' : Nat) : (gX2_seal ln k σ).2.2 c k' j' = σ c k' j' := put_k ln k _ _ h2 h12 k' j'
theorem copy_k (ln : sw_A) (k o : Nat) (σ : sw_S) {c : Nat} (h2 : ¬ c = 2) (h12 : ¬ c = 12) (k' j' : Nat) : (gX2_copyFrom ln k o σ).2.2 c k' j' = σ c k' j' := (fr_cp_k k o h12 k' j' _ _).trans (sw_upk _ h2)
theorem add_k (ln : sw_A) (r f : Nat) (σ : sw_S) {c : Nat} (h2 : ¬ c = 2) (h3 : ¬ c = 3) (h12 : ¬ c = 12) (k' j' : Nat) : (gX3_add ln r f σ).2.2 c k' j' = σ c k' j' := by
  show rg_ad ln r f σ (rg_as ln r σ) c k' j' = _
  cases rg_as ln r σ with
  | none => rfl
  | some q => exact (sw_upk _ h3).trans (copy_k ln q.2 f σ h2 h12 k' j')
theorem sd_sd_k (ln : sw_A) (s : Nat) (σ : sw_S) {c : Nat} (h2 : ¬ c = 2) (h3 : ¬ c = 3) (h6 : ¬ c = 6) (h12 : ¬ c = 12) (k' j' : Nat) : sd_sd ln s σ c k' j' = σ c k' j' := (sw_upk _ h6).trans ((sw_upk _ h6).trans (add_k ln _ _ σ h2 h3 h12 k' j'))
theorem sd_sd_6 (ln : sw_A) (s : Nat) (σ : sw_S) (k' : Nat) {j' : Nat} (h9 : ¬ j' = 9) (h11 : ¬ j' = 11) : sd_sd ln s σ 6 k' j' = σ 6 k' j' := (sw_upj _ h11).trans ((sw_upj _ h9).trans (add_k ln _ _ σ (by decide) (by decide) (by decide) k' j'))
theorem sd_sn_k (ln : sw_A) (s : Nat) (σ : sw_S) {c : Nat} (h2 : ¬ c = 2) (h3 : ¬ c = 3) (h6 : ¬ c = 6) (h12 : ¬ c = 12) (k' j' : Nat) : sd_sn ln s σ c k' j' = σ c k' j' := (sd_sd_k ln s _ h2 h3 h6 h12 k' j').trans ((add_k ln _ _ _ h2 h3 h12 k' j').trans (seal_k ln _ σ h2 h12 k' j'))
theorem sd_sn_6 (ln : sw_A) (s : Nat) (σ : sw_S) (k' : Nat) {j' : Nat} (h9 : ¬ j' = 9) (h11 : ¬ j' = 11) : sd_sn ln s σ 6 k' j' = σ 6 k' j' := (sd_sd_6 ln s _ k' h9 h11).trans ((add_k ln _ _ _ (by decide) (by decide) (by decide) k' j').trans (seal_k ln _ σ (by decide) (by decide) k' j'))
theorem qu_do_k (ln : sw_A) (q : Nat) (σ : sw_S) {c : Nat} (h0 : ¬ c = 0) (h5 : ¬ c = 5) (h11 : ¬ c = 11) (k' j' : Nat) : qu_do ln q σ c k' j' = σ c k' j' := by
  unfold qu_do
  split
  · rfl
  · rw [sw_upk _ h5]
    unfold qu_da
    rw [sw_upk _ h5]
    show (if ce_ho ln (q / 16) (σ 5 q 1) = 0 then σ else sw_up (sw_up σ 11 _ _ _) 0 _ _ _) c k' j' = _
    split
    · rfl
    · rw [sw_upk _ h0, sw_upk _ h11]
def sd_sg (s : Nat) (σ : sw_S) : Nat → Nat → Int32
  | 0, _ => -2
  | d + 1, j => if σ 1 (8 * s + (nI j).toNatClampNeg) 6 ≤ 0 then sd_sg s σ d (j + 1) else nI j
def gX6_streamToGrant (ln : sw_A) (s : Nat) (σ : sw_S) : sw_X := (lo ln, some (.inl (sd_sg s σ (ln 14 s) 0)), σ)
def fX6_streamToGrant (ln : sw_A) : sw_F := sw_fo 6 (gX6_streamToGrant ln)
def ctX6_streamToGrant (ln : sw_A) : sw_C := []
abbrev wX6_streamToGrant (ln : sw_A) (Q : Option sw_V → sw_S → Prop) : Nat → Nat → sw_L → List sw_V → sw_S → Prop := sw_wp sw_rf ln (ctX6_streamToGrant ln) sX6_streamToGrant 1 33 tX6_streamToGrant Q
theorem hX6_streamToGrant_l (ln : sw_A) (s n : Nat) (σ : sw_S) (X : sw_X) (hn : n < 2 ^ 31) (hz : ln 14 s = n) : ∀ (d j : Nat), j + d = n → X.2 = (some (.inl (sd_sg s σ d j)), σ) → ∃ fuel, wX6_streamToGrant ln (sw_end X) fuel 2 [some (.inr (some (6, s))), some (.inl (nI j))] [] σ := by
  intro d
  induction d with
  | zero =>
    intro j hj hX
    have hj : j = n := by omega
    subst hj
    refine ⟨20, And.intro (fun _ => ?_) (fun (h : ¬ nI (ln 14 s) ≤ nI j) => absurd (by rw [hz]; exact Int32.le_refl _) h)⟩
    show some _ = X.2.1 ∧ σ = X.2.2
    rw [hX]
    exact ⟨rfl, rfl⟩
  | succ d ih =>
    intro j hj hX
    have v1 : vp_in (nI j) (ln 14 s) := by rw [hz]; exact vp_in_nI (by omega) hn
    by_cases h1 : σ 1 (8 * s + (nI j).toNatClampNeg) 6 ≤ 0
    · obtain ⟨f, hf⟩ := ih (j + 1) (by omega) (by rw [hX]; exact congrArg (fun z => (some (Sum.inl z), σ)) (if_pos h1))
      rw [← nI_1] at hf
      refine ⟨f + 30, sw_ws_wp [2] f 30 _ _ _ _ ?_⟩
      exact And.intro (fun (h : nI (ln 14 s) ≤ nI j) => absurd (by rw [← hz]; exact h) (nI_ge (a := j) (b := n) (by omega) hn)) (fun _ => And.intro v1 (And.intro (fun _ => hf) (fun z => absurd h1 z)))
    · refine ⟨30, And.intro (fun (h : nI (ln 14 s) ≤ nI j) => absurd (by rw [← hz]; exact h) (nI_ge (a := j) (b := n) (by omega) hn)) (fun _ => And.intro v1 (And.intro (fun z => absurd z h1) (fun _ => ?_)))⟩
      show some _ = X.2.1 ∧ σ = X.2.2
      rw [hX]
      exact ⟨sw_ri (if_neg h1).symm, rfl⟩
theorem hX6_streamToGrant (ln : sw_A) (s : Nat) (σ : sw_S) (h : (gX6_streamToGrant ln s σ).1) : ∃ fuel, wX6_streamToGrant ln (sw_end (gX6_streamToGrant ln s σ)) fuel 0 (sw_ent 2 [.inr (some (6, s))]) [] σ := by
  obtain ⟨f, hf⟩ := hX6_streamToGrant_l ln s (ln 14 s) σ (gX6_streamToGrant ln s σ) (h.1 14 s) rfl (ln 14 s) 0 (by omega) rfl
  exact ⟨f + 10, sw_ws_wp [2] f 10 _ _ _ _ hf⟩
set_option maxRecDepth 100000 in
theorem mX6_streamToGrant {l : Launch} {ad : sw_A} {V : Nat → Nat → Prop} {ln : sw_A} {ca : Nat → ClassId} {D : va_G} (hG : sw_wf ad V sw_rf ln) : sw_met l ad V sw_rf ln ca D yX6_streamToGrant cX6_streamToGrant 2 (some .int) { frames := 0, cells := 0, slots := 0, locals := 0 } 1 (fX6_streamToGrant ln) := by
  refine sw_meth hG (by decide) (by refine ⟨?_, ?_, ?_, ?_⟩ <;> intro h <;> first | rfl | exact ⟨_, rfl⟩ | exact absurd h (by decide)) (by decide) kX6_streamToGrant flX6_in cnX6_in ?_ (sw_fo_h (W := fun Q L σ => ∃ fuel, wX6_streamToGrant ln Q fuel 0 L [] σ) (fun a0 σ h => hX6_streamToGrant ln a0 σ h))
  intro p e s m args below meth c S hT hnw
  exact fun q h => absurd h List.not_mem_nil
theorem sd_sg_in {ln : sw_A} {s : Nat} {σ : sw_S} (hl : lo ln) : ∀ (d j : Nat), j + d = ln 14 s → ¬ sd_sg s σ d j = -2 → vp_in (sd_sg s σ d j) (ln 14 s)
  | 0, _, _, h => absurd rfl h
  | d + 1, j, hj, h => by
    unfold sd_sg at h ⊢
    split
    · rename_i z
      rw [if_pos z] at h
      exact sd_sg_in hl d (j + 1) (by omega) h
    · exact vp_in_nI (by omega) (hl.1 14 s)
def sd_ts (ln : sw_A) (s : Nat) (σ : sw_S) : Nat → Int32 → Int32
  | 0, _ => -2
  | d + 1, t => if fl_hs (8 * s + t.toNatClampNeg) σ = 0 then sd_ts ln s σ d (sd_sa ln s t) else t
def bb (σ : sw_S) : Prop := ∀ w, sw_bo (σ 1 w 8) ∧ sw_bo (σ 1 w 9)
def gX6_streamToSend (ln : sw_A) (s : Nat) (σ : sw_S) : sw_X := (lo ln ∧ vp_in (σ 6 s 7) (ln 14 s) ∧ bb σ, some (.inl (sd_ts ln s σ (ln 14 s) (σ 6 s 7))), σ)
def fX6_streamToSend (ln : sw_A) : sw_F := sw_fo 6 (gX6_streamToSend ln)
def ctX6_streamToSend (ln : sw_A) : sw_C := [(156, 2, 7, fX6_flowAt ln), (160, 1, 2, fX1_hasToSend ln), (163, 2, 7, fX6_streamAfter ln)]
abbrev wX6_streamToSend (ln : sw_A) (Q : Option sw_V → sw_S → Prop) : Nat → Nat → sw_L → List sw_V → sw_S → Prop := sw_wp sw_rf ln (ctX6_streamToSend ln) sX6_streamToSend 1 49 tX6_streamToSend Q
theorem hX6_streamToSend_l (ln : sw_A) (s n : Nat) (σ : sw_S) (X : sw_X) (hn : n < 2 ^ 31) (hl : lo ln) (hb : bb σ) (hz : ln 14 s = n) : ∀ (d j : Nat) (t : Int32) (x3 : Option sw_V), j + d = n → vp_in t (ln 14 s) → X.2 = (some (.inl (sd_ts ln s σ d t)), σ) → ∃ fuel, wX6_streamToSend ln (sw_end X) fuel 7 [some (.inr (some (6, s))), some (.inl t), some (.inl (nI j)), x3] [] σ := by
  intro d
  induction d with
  | zero =>
    intro j t x3 hj ht hX
    have hj : j = n := by omega
    subst hj
    refine ⟨20, And.intro (fun _ => ?_) (fun (h : ¬ nI (ln 14 s) ≤ nI j) => absurd (by rw [hz]; exact Int32.le_refl _) h)⟩
    show some _ = X.2.1 ∧ σ = X.2.2
    rw [hX]
    exact ⟨rfl, rfl⟩
  | succ d ih =>
    intro j t x3 hj ht hX
    have key : ∃ M, ∀ r, r = some (1, 8 * s + t.toNatClampNeg) → wX6_streamToSend ln (sw_end X) M 21 [some (.inr (some (6, s))), some (.inl t), some (.inl (nI j)), x3] [.inr r] σ := by
      by_cases h1 : fl_hs (8 * s + t.toNatClampNeg) σ = 0
      · obtain ⟨f, hf⟩ := ih (j + 1) (sd_sa ln s t) (some (.inr (some (1, 8 * s + t.toNatClampNeg)))) (by omega) (sd_sa_in hl ht) (by rw [hX]; exact congrArg (fun z => (some (Sum.inl z), σ)) (if_pos h1))
        rw [← nI_1] at hf
        refine ⟨f + 30, fun r hr => sw_ws_wp [7] f 30 _ _ _ _ ?_⟩
        subst hr
        exact And.intro (hb _).1 (And.intro (fun _ => And.intro trivial hf) (fun z => absurd h1 z))
      · refine ⟨30, fun r hr => ?_⟩
        subst hr
        refine And.intro (hb _).1 (And.intro (fun z => absurd z h1) (fun _ => ?_))
        show some _ = X.2.1 ∧ σ = X.2.2
        rw [hX]
        exact ⟨sw_ri (if_neg h1).symm, rfl⟩
    obtain ⟨M, key⟩ := key
    refine ⟨M + 20, sw_ws_wp [21] M 20 _ _ _ _ ?_⟩
    exact And.intro (fun (h : nI (ln 14 s) ≤ nI j) => absurd (by rw [← hz]; exact h) (nI_ge (a := j) (b := n) (by omega) hn)) (fun _ => And.intro (hl.1 14 s) (key _ (sd_fa_in hl ht)))
theorem hX6_streamToSend (ln : sw_A) (s : Nat) (σ : sw_S) (h : (gX6_streamToSend ln s σ).1) : ∃ fuel, wX6_streamToSend ln (sw_end (gX6_streamToSend ln s σ)) fuel 0 (sw_ent 4 [.inr (some (6, s))]) [] σ := by
  obtain ⟨f, hf⟩ := hX6_streamToSend_l ln s (ln 14 s) σ (gX6_streamToSend ln s σ) (h.1.1 14 s) h.1 h.2.2 rfl (ln 14 s) 0 (σ 6 s 7) none (by omega) h.2.1 rfl
  exact ⟨f + 10, sw_ws_wp [7] f 10 _ _ _ _ hf⟩
set_option maxRecDepth 100000 in
theorem mX6_streamToSend {l : Launch} {ad : sw_A} {V : Nat → Nat → Prop} {ln : sw_A} {ca : Nat → ClassId} {D : va_G} (hG : sw_wf ad V sw_rf ln) : sw_met l ad V sw_rf ln ca D yX6_streamToSend cX6_streamToSend 4 (some .int) { frames := 2, cells := 0, slots := 0, locals := 40 } 1 (fX6_streamToSend ln) := by
  refine sw_meth hG (by decide) (by refine ⟨?_, ?_, ?_, ?_⟩ <;> intro h <;> first | rfl | exact ⟨_, rfl⟩ | exact absurd h (by decide)) (by decide) kX6_streamToSend flX6_in cnX6_in ?_ (sw_fo_h (W := fun Q L σ => ∃ fuel, wX6_streamToSend ln Q fuel 0 L [] σ) (fun a0 σ h => hX6_streamToSend ln a0 σ h))
  intro p e s m args below meth c S hT hnw
  refine List.forall_mem_cons.mpr ⟨sw_cokV S hT hnw (mX6_flowAt hG) 156 6 (by decide) ⟨by decide +kernel, by decide +kernel, by decide +kernel, by decide +kernel, by decide +kernel⟩ ⟨rfl, by decide, by decide, by decide +kernel⟩ ⟨rfl, rfl⟩ ⟨by decide, by decide⟩, ?_⟩
  refine List.forall_mem_cons.mpr ⟨sw_cokV S hT hnw (mX1_hasToSend hG) 160 1 (by decide) ⟨by decide +kernel, by decide +kernel, by decide +kernel, by decide +kernel, by decide +kernel⟩ ⟨rfl, by decide, by decide, by decide +kernel⟩ ⟨rfl, rfl⟩ ⟨by decide, by decide⟩, ?_⟩
  refine List.forall_mem_cons.mpr ⟨sw_cokV S hT hnw (mX6_streamAfter hG) 163 6 (by decide) ⟨by decide +kernel, by decide +kernel, by decide +kernel, by decide +kernel, by decide +kernel⟩ ⟨rfl, by decide, by decide, by decide +kernel⟩ ⟨rfl, rfl⟩ ⟨by decide, by decide⟩, ?_⟩
  exact fun q h => absurd h List.not_mem_nil
theorem sd_ts_in {ln : sw_A} {s : Nat} {σ : sw_S} (hl : lo ln) : ∀ (d : Nat) (t : Int32), vp_in t (ln 14 s) → ¬ sd_ts ln s σ d t = -2 → vp_in (sd_ts ln s σ d t) (ln 14 s)
  | 0, _, _, h => absurd rfl h
  | d + 1, t, ht, h => by
    unfold sd_ts at h ⊢
    split
    · rename_i z
      rw [if_pos z] at h
      exact sd_ts_in hl d _ (sd_sa_in hl ht) h
    · exact ht
def sd_g1 (ln : sw_A) (s : Nat) (i : Int32) (σ : sw_S) : sw_S := (gX6_beginNumbered ln s 2 i 0 σ).2.2
def sd_g2 (ln : sw_A) (s : Nat) (i : Int32) (σ : sw_S) : sw_S := sw_up (gX2_put ln (128 + s) (sd_g1 ln s i σ 1 (8 * s + i.toNatClampNeg) 6) (sd_g1 ln s i σ)).2.2 1 (8 * s + i.toNatClampNeg) 6 0
def gX6_sendGrant (ln : sw_A) (s : Nat) (i : Int32) (σ : sw_S) : sw_X := (lo ln ∧ fg ln σ ∧ vp_in i (ln 14 s), none, sd_sn ln s (sd_g2 ln s i σ))
def fX6_sendGrant (ln : sw_A) : sw_F := sw_foi 6 (gX6_sendGrant ln)
def ctX6_sendGrant (ln : sw_A) : sw_C := [(156, 2, 7, fX6_flowAt ln), (167, 4, 7, fX6_beginNumbered ln), (171, 2, 3, fX2_put ln), (173, 1, 7, fX6_sendNumbered ln)]
abbrev wX6_sendGrant (ln : sw_A) (Q : Option sw_V → sw_S → Prop) : Nat → Nat → sw_L → List sw_V → sw_S → Prop := sw_wp sw_rf ln (ctX6_sendGrant ln) sX6_sendGrant 0 38 tX6_sendGrant Q
theorem sd_g1_go {ln : sw_A} {σ : sw_S} (hl : lo ln) (h : fg ln σ) (s : Nat) (i : Int32) : fg ln (sd_g1 ln s i σ) := (begin_go hl h _ _).2
theorem sd_g2_go {ln : sw_A} {σ : sw_S} (hl : lo ln) (h : fg ln σ) (s : Nat) (i : Int32) : fg ln (sd_g2 ln s i σ) := fg_upk (put_go hl (sd_g1_go hl h s i) _ _) (by decide)
theorem hX6_sendGrant (ln : sw_A) (s : Nat) (i : Int32) (σ : sw_S) (h : (gX6_sendGrant ln s i σ).1) : ∃ fuel, wX6_sendGrant ln (sw_end (gX6_sendGrant ln s i σ)) fuel 0 (sw_ent 3 [.inr (some (6, s)), .inl i]) [] σ := by
  obtain ⟨hl, hg, hi⟩ := h
  have key : ∃ M, ∀ r, r = some (1, 8 * s + i.toNatClampNeg) → wX6_sendGrant ln (sw_end (gX6_sendGrant ln s i σ)) M 5 [some (.inr (some (6, s))), some (.inl i), none] [.inr r] σ := by
    refine ⟨40, fun r hr => ?_⟩
    subst hr
    exact And.intro ⟨hl, hg⟩ (And.intro ⟨(sd_g1_go hl hg s i _).1, hl.1 12 _⟩ (And.intro ⟨hl, sd_g2_go hl hg s i⟩ ⟨rfl, rfl⟩))
  obtain ⟨M, key⟩ := key
  refine ⟨M + 10, sw_ws_wp [5] M 10 _ _ _ _ ?_⟩
  exact And.intro (hl.1 14 s) (key _ (sd_fa_in hl hi))
set_option maxRecDepth 100000 in
theorem mX6_sendGrant {l : Launch} {ad : sw_A} {V : Nat → Nat → Prop} {ln : sw_A} {ca : Nat → ClassId} {D : va_G} (hG : sw_wf ad V sw_rf ln) : sw_met l ad V sw_rf ln ca D yX6_sendGrant cX6_sendGrant 3 none { frames := 5, cells := 0, slots := 0, locals := 105 } 2 (fX6_sendGrant ln) := by
  refine sw_meth hG (by decide) (by refine ⟨?_, ?_, ?_, ?_⟩ <;> intro h <;> first | rfl | exact ⟨_, rfl⟩ | exact absurd h (by decide)) (by decide) kX6_sendGrant flX6_in cnX6_in ?_ (sw_foi_h (W := fun Q L σ => ∃ fuel, wX6_sendGrant ln Q fuel 0 L [] σ) (fun a0 a1 σ h => hX6_sendGrant ln a0 a1 σ h))
  intro p e s m args below meth c S hT hnw
  refine List.forall_mem_cons.mpr ⟨sw_cokV S hT hnw (mX6_flowAt hG) 156 6 (by decide) ⟨by decide +kernel, by decide +kernel, by decide +kernel, by decide +kernel, by decide +kernel⟩ ⟨rfl, by decide, by decide, by decide +kernel⟩ ⟨rfl, rfl⟩ ⟨by decide, by decide⟩, ?_⟩
  refine List.forall_mem_cons.mpr ⟨sw_cokV S hT hnw (mX6_beginNumbered hG) 167 6 (by decide) ⟨by decide +kernel, by decide +kernel, by decide +kernel, by decide +kernel, by decide +kernel⟩ ⟨rfl, by decide, by decide, by decide +kernel⟩ ⟨rfl, rfl⟩ ⟨by decide, by decide⟩, ?_⟩
  refine List.forall_mem_cons.mpr ⟨sw_cokV S hT hnw (mX2_put hG) 171 2 (by decide) ⟨by decide +kernel, by decide +kernel, by decide +kernel, by decide +kernel, by decide +kernel⟩ ⟨rfl, by decide, by decide, by decide +kernel⟩ ⟨rfl, rfl⟩ ⟨by decide, by decide⟩, ?_⟩
  refine List.forall_mem_cons.mpr ⟨sw_cokV S hT hnw (mX6_sendNumbered hG) 173 6 (by decide) ⟨by decide +kernel, by decide +kernel, by decide +kernel, by decide +kernel, by decide +kernel⟩ ⟨rfl, by decide, by decide, by decide +kernel⟩ ⟨rfl, rfl⟩ ⟨by decide, by decide⟩, ?_⟩
  exact fun q h => absurd h List.not_mem_nil
