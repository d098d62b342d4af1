/-! Side: data, turns, the next frame -/
def sd_m (w : Nat) (σ : sw_S) : Int32 := if σ 1 w 5 < σ 5 (2 * w) 3 then σ 1 w 5 else σ 5 (2 * w) 3
def sd_cn (w : Nat) (σ : sw_S) : Int32 := if sd_m w σ < σ 4 0 1 then sd_m w σ else σ 4 0 1
def sd_e0 (ln : sw_A) (s w : Nat) (i : Int32) (σ : sw_S) : sw_S := (gX2_put ln (128 + s) 0 (gX6_beginNumbered ln s 1 i (sd_cn w σ) σ).2.2).2.2
def sd_e1 (ln : sw_A) (s w j : Nat) (a : sw_S) : sw_S := if qu_om ln (2 * w) a = 0 then a else (gX2_flip ln (128 + s) 1 ((1 : Int32) <<< (nI j &&& 31)) a).2.2
def sd_e2 (ln : sw_A) (s w : Nat) (a : sw_S) : sw_S := qu_do ln (2 * w) (gX2_put ln (128 + s) (qu_ow ln (2 * w) a) a).2.2
def sd_dl (ln : sw_A) (s w : Nat) : Nat → sw_S → sw_S
  | 0, σ => σ
  | n + 1, σ => sd_e2 ln s w (sd_e1 ln s w n (sd_dl ln s w n σ))
def sd_dz (w : Nat) (c : Int32) (a : sw_S) : sw_S := sw_up a 1 w 5 (a 1 w 5 - c)
def sd_dd (ln : sw_A) (s w : Nat) (i : Int32) (σ : sw_S) : sw_S := sd_dz w (sd_cn w σ) (sd_dl ln s w (sd_cn w σ).toNatClampNeg (sd_e0 ln s w i σ))
def gX6_draftData (ln : sw_A) (s w : Nat) (i : Int32) (σ : sw_S) : sw_X := (lo ln ∧ fg ln σ ∧ 0 ≤ sd_cn w σ, none, sd_dd ln s w i σ)
def fX6_draftData (ln : sw_A) : sw_F := sw_fooi 6 1 (gX6_draftData ln)
def ctX6_draftData (ln : sw_A) : sw_C := [(92, 1, 6, fX5_size ln), (201, 2, 0, sw_min), (167, 4, 7, fX6_beginNumbered ln), (171, 2, 3, fX2_put ln), (99, 1, 6, fX5_oldestIsMark ln), (204, 3, 3, fX2_flip ln), (102, 1, 6, fX5_oldestWord ln), (208, 1, 6, fX5_dropOldest ln)]
abbrev wX6_draftData (ln : sw_A) (Q : Option sw_V → sw_S → Prop) : Nat → Nat → sw_L → List sw_V → sw_S → Prop := sw_wp sw_rf ln (ctX6_draftData ln) sX6_draftData 0 109 tX6_draftData Q
theorem qu_do_go {ln : sw_A} {σ : sw_S} (h : fg ln σ) (q : Nat) : fg ln (qu_do ln q σ) := fg_eq h (fun k => qu_do_k ln q σ (by decide) (by decide) (by decide) k 1)
theorem sd_e1_go {ln : sw_A} {a : sw_S} (h : fg ln a) (s w j : Nat) : fg ln (sd_e1 ln s w j a) := by
  unfold sd_e1
  split
  · exact h
  · exact flip_go h _ _ _
theorem sd_e2_go {ln : sw_A} {a : sw_S} (hl : lo ln) (h : fg ln a) (s w : Nat) : fg ln (sd_e2 ln s w a) := qu_do_go (put_go hl h _ _) _
theorem sd_dl_go {ln : sw_A} (hl : lo ln) (s w : Nat) : ∀ (n : Nat) (a : sw_S), fg ln a → fg ln (sd_dl ln s w n a)
  | 0, _, h => h
  | n + 1, a, h => sd_e2_go hl (sd_e1_go (sd_dl_go hl s w n a h) s w n) s w
theorem sd_e0_go {ln : sw_A} {σ : sw_S} (hl : lo ln) (h : fg ln σ) (s w : Nat) (i : Int32) : fg ln (gX6_beginNumbered ln s 1 i (sd_cn w σ) σ).2.2 ∧ fg ln (sd_e0 ln s w i σ) := ⟨(begin_go hl h _ _).2, put_go hl (begin_go hl h _ _).2 _ _⟩
theorem hX6_draftData_l (ln : sw_A) (s w n : Nat) (i : Int32) (σ : sw_S) (X : sw_X) (hn : n < 2 ^ 31) (hl : lo ln) (hg : fg ln σ) (hX : X.2 = (none, sd_dz w (nI n) (sd_dl ln s w n σ))) : ∀ (d j : Nat), j + d = n → ∃ fuel, wX6_draftData ln (sw_end X) fuel 43 [some (.inr (some (6, s))), some (.inr (some (1, w))), some (.inl i), some (.inl (nI n)), some (.inl (nI j))] [] (sd_dl ln s w j σ) := by
  intro d
  induction d with
  | zero =>
    intro j hj
    have hj : j = n := by omega
    subst hj
    refine ⟨20, And.intro (fun _ => ?_) (fun (h : ¬ nI j ≤ nI j) => absurd (Int32.le_refl _) h)⟩
    show none = X.2.1 ∧ sd_dz w (nI j) (sd_dl ln s w j σ) = X.2.2
    rw [hX]
    exact ⟨rfl, rfl⟩
  | succ d ih =>
    intro j hj
    have hgj := sd_dl_go hl s w j σ hg
    have hg1 := sd_e1_go hgj s w j
    have hce := hl.ce ((2 * w) / 16)
    obtain ⟨f, hf⟩ := ih (j + 1) (by omega)
    rw [← nI_1] at hf
    have key : ∃ M, ∀ a, a = sd_e1 ln s w j (sd_dl ln s w j σ) → wX6_draftData ln (sw_end X) M 72 [some (.inr (some (6, s))), some (.inr (some (1, w))), some (.inl i), some (.inl (nI n)), some (.inl (nI j))] [] a := by
      refine ⟨f + 30, fun a ha => sw_ws_wp [43] f 30 _ _ _ _ ?_⟩
      subst ha
      exact And.intro hce (And.intro ⟨(hg1 _).1, hl.1 12 _⟩ (And.intro hce hf))
    obtain ⟨M, key⟩ := key
    refine ⟨M + 30, sw_ws_wp [72] M 30 _ _ _ _ ?_⟩
    refine And.intro (fun (h : nI n ≤ nI j) => absurd h (nI_ge (a := j) (b := n) (by omega) hn)) (fun _ => And.intro hce (And.intro (fun (h1 : qu_om ln (2 * w) (sd_dl ln s w j σ) = 0) => ?_) (fun (h1 : ¬ qu_om ln (2 * w) (sd_dl ln s w j σ) = 0) => And.intro (hgj.ok hl _) ?_)))
    · exact key _ (if_pos h1).symm
    · exact key _ (if_neg h1).symm
theorem hX6_draftData (ln : sw_A) (s w : Nat) (i : Int32) (σ : sw_S) (h : (gX6_draftData ln s w i σ).1) : ∃ fuel, wX6_draftData ln (sw_end (gX6_draftData ln s w i σ)) fuel 0 (sw_ent 5 [.inr (some (6, s)), .inr (some (1, w)), .inl i]) [] σ := by
  obtain ⟨hl, hg, hc⟩ := h
  obtain ⟨n, hn, hcn⟩ := nI_of (Int32.not_lt.mpr hc)
  have he := sd_e0_go hl hg s w i
  obtain ⟨f, hf⟩ := hX6_draftData_l ln s w n i (sd_e0 ln s w i σ) (gX6_draftData ln s w i σ) hn hl he.2 (by
    show (none, sd_dz w (sd_cn w σ) (sd_dl ln s w (sd_cn w σ).toNatClampNeg (sd_e0 ln s w i σ))) = _
    rw [hcn, nI_clamp hn]) n 0 (by omega)
  rw [← hcn] at hf
  refine ⟨f + 40, sw_ws_wp [43] f 40 _ _ _ _ ?_⟩
  exact And.intro trivial (And.intro trivial (And.intro trivial (And.intro ⟨hl, hg⟩ (And.intro ⟨(he.1 _).1, hl.1 12 _⟩ hf))))
set_option maxRecDepth 100000 in
theorem mX6_draftData {l : Launch} {ad : sw_A} {V : Nat → Nat → Prop} {ln : sw_A} {ca : Nat → ClassId} {D : va_G} (hG : sw_wf ad V sw_rf ln) : sw_met l ad V sw_rf ln ca D yX6_draftData cX6_draftData 5 none { frames := 3, cells := 0, slots := 0, locals := 66 } 3 (fX6_draftData ln) := by
  refine sw_meth hG (by decide) (by refine ⟨?_, ?_, ?_, ?_⟩ <;> intro h <;> first | rfl | exact ⟨_, rfl⟩ | exact absurd h (by decide)) (by decide) kX6_draftData flX6_in cnX6_in ?_ (sw_fooi_h (W := fun Q L σ => ∃ fuel, wX6_draftData ln Q fuel 0 L [] σ) (fun a0 a1 a2 σ h => hX6_draftData ln a0 a1 a2 σ h))
  intro p e s m args below meth c S hT hnw
  refine List.forall_mem_cons.mpr ⟨sw_cokV S hT hnw (mX5_size hG) 92 5 (by decide) ⟨by decide +kernel, by decide +kernel, by decide +kernel, by decide +kernel, by decide +kernel⟩ ⟨rfl, by decide, by decide, by decide +kernel⟩ ⟨rfl, rfl⟩ ⟨by decide, by decide⟩, ?_⟩
  refine List.forall_mem_cons.mpr ⟨sw_cokM S 201 (by decide +kernel) ⟨by decide, by decide⟩, ?_⟩
  refine List.forall_mem_cons.mpr ⟨sw_cokV S hT hnw (mX6_beginNumbered hG) 167 6 (by decide) ⟨by decide +kernel, by decide +kernel, by decide +kernel, by decide +kernel, by decide +kernel⟩ ⟨rfl, by decide, by decide, by decide +kernel⟩ ⟨rfl, rfl⟩ ⟨by decide, by decide⟩, ?_⟩
  refine List.forall_mem_cons.mpr ⟨sw_cokV S hT hnw (mX2_put hG) 171 2 (by decide) ⟨by decide +kernel, by decide +kernel, by decide +kernel, by decide +kernel, by decide +kernel⟩ ⟨rfl, by decide, by decide, by decide +kernel⟩ ⟨rfl, rfl⟩ ⟨by decide, by decide⟩, ?_⟩
  refine List.forall_mem_cons.mpr ⟨sw_cokV S hT hnw (mX5_oldestIsMark hG) 99 5 (by decide) ⟨by decide +kernel, by decide +kernel, by decide +kernel, by decide +kernel, by decide +kernel⟩ ⟨rfl, by decide, by decide, by decide +kernel⟩ ⟨rfl, rfl⟩ ⟨by decide, by decide⟩, ?_⟩
  refine List.forall_mem_cons.mpr ⟨sw_cokV S hT hnw (mX2_flip hG) 204 2 (by decide) ⟨by decide +kernel, by decide +kernel, by decide +kernel, by decide +kernel, by decide +kernel⟩ ⟨rfl, by decide, by decide, by decide +kernel⟩ ⟨rfl, rfl⟩ ⟨by decide, by decide⟩, ?_⟩
  refine List.forall_mem_cons.mpr ⟨sw_cokV S hT hnw (mX5_oldestWord hG) 102 5 (by decide) ⟨by decide +kernel, by decide +kernel, by decide +kernel, by decide +kernel, by decide +kernel⟩ ⟨rfl, by decide, by decide, by decide +kernel⟩ ⟨rfl, rfl⟩ ⟨by decide, by decide⟩, ?_⟩
  refine List.forall_mem_cons.mpr ⟨sw_cokV S hT hnw (mX5_dropOldest hG) 208 5 (by decide) ⟨by decide +kernel, by decide +kernel, by decide +kernel, by decide +kernel, by decide +kernel⟩ ⟨rfl, by decide, by decide, by decide +kernel⟩ ⟨rfl, rfl⟩ ⟨by decide, by decide⟩, ?_⟩
  exact fun q h => absurd h List.not_mem_nil
theorem sd_dl_6 (ln : sw_A) (s w : Nat) (k' j' : Nat) : ∀ (n : Nat) (a : sw_S), sd_dl ln s w n a 6 k' j' = a 6 k' j'
  | 0, _ => rfl
  | n + 1, a => by
    show sd_e2 ln s w (sd_e1 ln s w n (sd_dl ln s w n a)) 6 k' j' = _
    unfold sd_e2
    rw [qu_do_k ln _ _ (by decide) (by decide) (by decide), put_k ln _ _ _ (by decide) (by decide)]
    unfold sd_e1
    split
    · exact sd_dl_6 ln s w k' j' n a
    · rw [flip_k ln _ _ _ _ (by decide)]
      exact sd_dl_6 ln s w k' j' n a
theorem sd_dd_6 (ln : sw_A) (s w : Nat) (i : Int32) (σ : sw_S) (k' j' : Nat) : sd_dd ln s w i σ 6 k' j' = σ 6 k' j' := by
  unfold sd_dd sd_dz
  rw [sw_upk _ (by decide), sd_dl_6]
  exact (put_k ln _ _ _ (by decide) (by decide) k' j').trans (begin_k ln _ _ σ (by decide) (by decide) k' j')
theorem sd_dd_go {ln : sw_A} {σ : sw_S} (hl : lo ln) (h : fg ln σ) (s w : Nat) (i : Int32) : fg ln (sd_dd ln s w i σ) := fg_upk (sd_dl_go hl s w _ _ (sd_e0_go hl h s w i).2) (by decide)
def sd_b0 (s : Nat) (i : Int32) (σ : sw_S) : sw_S := if i = σ 6 s 7 then σ else sd_bt s i σ
def sd_b1 (ln : sw_A) (s w : Nat) (i : Int32) (a : sw_S) : sw_S := if a 1 w 7 = 0 then (if a 5 (2 * w) 3 ≤ 0 then sw_up (gX6_beginNumbered ln s 4 i 0 a).2.2 1 w 8 0 else sd_dd ln s w i a) else sw_up (gX6_beginNumbered ln s 3 i 0 a).2.2 1 w 7 0
def sd_it (ln : sw_A) (s : Nat) (i : Int32) (σ : sw_S) : sw_S := sd_ct ln s (sd_sn ln s (sd_b1 ln s (8 * s + i.toNatClampNeg) i (sd_b0 s i σ)))
def gX6_sendInTurn (ln : sw_A) (s : Nat) (i : Int32) (σ : sw_S) : sw_X := (lo ln ∧ fg ln σ ∧ vp_in i (ln 14 s) ∧ vp_in (σ 6 s 7) (ln 14 s) ∧ 0 ≤ sd_cn (8 * s + i.toNatClampNeg) σ, none, sd_it ln s i σ)
def fX6_sendInTurn (ln : sw_A) : sw_F := sw_foi 6 (gX6_sendInTurn ln)
def ctX6_sendInTurn (ln : sw_A) : sw_C := [(156, 2, 7, fX6_flowAt ln), (176, 2, 7, fX6_beginTurn ln), (167, 4, 7, fX6_beginNumbered ln), (92, 1, 6, fX5_size ln), (182, 3, 7, fX6_draftData ln), (173, 1, 7, fX6_sendNumbered ln), (189, 1, 7, fX6_countTurn ln)]
abbrev wX6_sendInTurn (ln : sw_A) (Q : Option sw_V → sw_S → Prop) : Nat → Nat → sw_L → List sw_V → sw_S → Prop := sw_wp sw_rf ln (ctX6_sendInTurn ln) sX6_sendInTurn 0 85 tX6_sendInTurn Q
theorem hX6_sendInTurn (ln : sw_A) (s : Nat) (i : Int32) (σ : sw_S) (h : (gX6_sendInTurn ln s i σ).1) : ∃ fuel, wX6_sendInTurn ln (sw_end (gX6_sendInTurn ln s i σ)) fuel 0 (sw_ent 3 [.inr (some (6, s)), .inl i]) [] σ := by
  obtain ⟨hl, hg, hi, ht, hc⟩ := h
  obtain ⟨w, hw⟩ : ∃ w, w = 8 * s + i.toNatClampNeg := ⟨_, rfl⟩
  rw [← hw] at hc
  have k77 : ∃ M, ∀ b, fg ln b → vp_in (b 6 s 7) (ln 14 s) → b = sd_b1 ln s w i (sd_b0 s i σ) → wX6_sendInTurn ln (sw_end (gX6_sendInTurn ln s i σ)) M 77 [some (.inr (some (6, s))), some (.inl i), some (.inr (some (1, w)))] [] b := by
    refine ⟨20, fun b h1 h2 h3 => ?_⟩
    refine And.intro ⟨hl, h1⟩ (And.intro ⟨hl, ?_⟩ ⟨rfl, ?_⟩)
    · show vp_in (sd_sn ln s b 6 s 7) (ln 14 s)
      rw [sd_sn_6 ln s b s (by decide) (by decide)]
      exact h2
    · show sd_ct ln s (sd_sn ln s b) = sd_it ln s i σ
      rw [h3, hw]
      rfl
  obtain ⟨M, k77⟩ := k77
  have k24 : ∃ M, ∀ b, fg ln b → vp_in (b 6 s 7) (ln 14 s) → 0 ≤ sd_cn w b → b = sd_b0 s i σ → wX6_sendInTurn ln (sw_end (gX6_sendInTurn ln s i σ)) M 24 [some (.inr (some (6, s))), some (.inl i), some (.inr (some (1, w)))] [] b := by
    refine ⟨M + 30, fun b h1 h2 h3 h4 => sw_ws_wp [77] M 30 _ _ _ _ ?_⟩
    refine And.intro (fun (a1 : b 1 w 7 = 0) => And.intro trivial (And.intro (fun (a2 : b 5 (2 * w) 3 ≤ 0) => And.intro ⟨hl, h1⟩ (And.intro (Or.inl rfl) (k77 _ ?_ ?_ ?_))) (fun (a2 : ¬ b 5 (2 * w) 3 ≤ 0) => And.intro ⟨hl, h1, h3⟩ (k77 _ ?_ ?_ ?_)))) (fun (a1 : ¬ b 1 w 7 = 0) => And.intro ⟨hl, h1⟩ (And.intro (Or.inl rfl) (k77 _ ?_ ?_ ?_)))
    · exact fg_upk (begin_go hl h1 _ _).2 (by decide)
    · show vp_in (sw_up (gX6_beginNumbered ln s 4 i 0 b).2.2 1 w 8 0 6 s 7) (ln 14 s)
      rw [sw_upk _ (by decide), show (gX6_beginNumbered ln s 4 i 0 b).2.2 6 s 7 = b 6 s 7 from begin_k ln _ _ b (by decide) (by decide) s 7]
      exact h2
    · rw [← h4]
      unfold sd_b1
      rw [if_pos a1, if_pos a2]
      rfl
    · exact sd_dd_go hl h1 s w i
    · show vp_in (sd_dd ln s w i b 6 s 7) (ln 14 s)
      rw [sd_dd_6]
      exact h2
    · rw [← h4]
      unfold sd_b1
      rw [if_pos a1, if_neg a2]
      rfl
    · exact fg_upk (begin_go hl h1 _ _).2 (by decide)
    · show vp_in (sw_up (gX6_beginNumbered ln s 3 i 0 b).2.2 1 w 7 0 6 s 7) (ln 14 s)
      rw [sw_upk _ (by decide), show (gX6_beginNumbered ln s 3 i 0 b).2.2 6 s 7 = b 6 s 7 from begin_k ln _ _ b (by decide) (by decide) s 7]
      exact h2
    · rw [← h4]
      unfold sd_b1
      rw [if_neg a1]
      rfl
  obtain ⟨M2, k24⟩ := k24
  have k5 : ∃ M, ∀ r, r = some (1, w) → wX6_sendInTurn ln (sw_end (gX6_sendInTurn ln s i σ)) M 5 [some (.inr (some (6, s))), some (.inl i), none] [.inr r] σ := by
    refine ⟨M2 + 20, fun r hr => sw_ws_wp [24] M2 20 _ _ _ _ ?_⟩
    subst hr
    refine And.intro (fun (a1 : i = σ 6 s 7) => k24 _ hg ht hc (if_pos a1).symm) (fun (a1 : ¬ i = σ 6 s 7) => And.intro ⟨hl, hi⟩ (k24 _ ?_ ?_ ?_ ?_))
    · exact fg_upk (fg_upk hg (by decide)) (by decide)
    · show vp_in (sd_bt s i σ 6 s 7) (ln 14 s)
      unfold sd_bt
      rw [sw_upj _ (by decide), sw_upe]
      exact hi
    · show 0 ≤ sd_cn w (sd_bt s i σ)
      have e : ∀ c k j, ¬ c = 6 → sd_bt s i σ c k j = σ c k j := fun c k j z => (sw_upk _ z).trans (sw_upk _ z)
      unfold sd_cn sd_m
      rw [e 1 w 5 (by decide), e 5 (2 * w) 3 (by decide), e 4 0 1 (by decide)]
      exact hc
    · exact (if_neg a1).symm
  obtain ⟨M3, k5⟩ := k5
  refine ⟨M3 + 10, sw_ws_wp [5] M3 10 _ _ _ _ ?_⟩
  exact And.intro (hl.1 14 s) (k5 _ (by rw [hw]; exact sd_fa_in hl hi))
set_option maxRecDepth 100000 in
theorem mX6_sendInTurn {l : Launch} {ad : sw_A} {V : Nat → Nat → Prop} {ln : sw_A} {ca : Nat → ClassId} {D : va_G} (hG : sw_wf ad V sw_rf ln) : sw_met l ad V sw_rf ln ca D yX6_sendInTurn cX6_sendInTurn 3 none { frames := 5, cells := 0, slots := 0, locals := 105 } 2 (fX6_sendInTurn ln) := by
  refine sw_meth hG (by decide) (by refine ⟨?_, ?_, ?_, ?_⟩ <;> intro h <;> first | rfl | exact ⟨_, rfl⟩ | exact absurd h (by decide)) (by decide) kX6_sendInTurn flX6_in cnX6_in ?_ (sw_foi_h (W := fun Q L σ => ∃ fuel, wX6_sendInTurn ln Q fuel 0 L [] σ) (fun a0 a1 σ h => hX6_sendInTurn ln a0 a1 σ h))
  intro p e s m args below meth c S hT hnw
  refine List.forall_mem_cons.mpr ⟨sw_cokV S hT hnw (mX6_flowAt hG) 156 6 (by decide) ⟨by decide +kernel, by decide +kernel, by decide +kernel, by decide +kernel, by decide +kernel⟩ ⟨rfl, by decide, by decide, by decide +kernel⟩ ⟨rfl, rfl⟩ ⟨by decide, by decide⟩, ?_⟩
  refine List.forall_mem_cons.mpr ⟨sw_cokV S hT hnw (mX6_beginTurn hG) 176 6 (by decide) ⟨by decide +kernel, by decide +kernel, by decide +kernel, by decide +kernel, by decide +kernel⟩ ⟨rfl, by decide, by decide, by decide +kernel⟩ ⟨rfl, rfl⟩ ⟨by decide, by decide⟩, ?_⟩
  refine List.forall_mem_cons.mpr ⟨sw_cokV S hT hnw (mX6_beginNumbered hG) 167 6 (by decide) ⟨by decide +kernel, by decide +kernel, by decide +kernel, by decide +kernel, by decide +kernel⟩ ⟨rfl, by decide, by decide, by decide +kernel⟩ ⟨rfl, rfl⟩ ⟨by decide, by decide⟩, ?_⟩
  refine List.forall_mem_cons.mpr ⟨sw_cokV S hT hnw (mX5_size hG) 92 5 (by decide) ⟨by decide +kernel, by decide +kernel, by decide +kernel, by decide +kernel, by decide +kernel⟩ ⟨rfl, by decide, by decide, by decide +kernel⟩ ⟨rfl, rfl⟩ ⟨by decide, by decide⟩, ?_⟩
  refine List.forall_mem_cons.mpr ⟨sw_cokV S hT hnw (mX6_draftData hG) 182 6 (by decide) ⟨by decide +kernel, by decide +kernel, by decide +kernel, by decide +kernel, by decide +kernel⟩ ⟨rfl, by decide, by decide, by decide +kernel⟩ ⟨rfl, rfl⟩ ⟨by decide, by decide⟩, ?_⟩
  refine List.forall_mem_cons.mpr ⟨sw_cokV S hT hnw (mX6_sendNumbered hG) 173 6 (by decide) ⟨by decide +kernel, by decide +kernel, by decide +kernel, by decide +kernel, by decide +kernel⟩ ⟨rfl, by decide, by decide, by decide +kernel⟩ ⟨rfl, rfl⟩ ⟨by decide, by decide⟩, ?_⟩
  refine List.forall_mem_cons.mpr ⟨sw_cokV S hT hnw (mX6_countTurn hG) 189 6 (by decide) ⟨by decide +kernel, by decide +kernel, by decide +kernel, by decide +kernel, by decide +kernel⟩ ⟨rfl, by decide, by decide, by decide +kernel⟩ ⟨rfl, rfl⟩ ⟨by decide, by decide⟩, ?_⟩
  exact fun q h => absurd h List.not_mem_nil
def sd_na (ln : sw_A) (s : Nat) (σ : sw_S) : Int32 × sw_S := if σ 6 s 9 = 0 then (0, σ) else (50, sd_ak ln s σ)
def sd_np (ln : sw_A) (s : Nat) (σ : sw_S) : Int32 × sw_S :=
  if rg_ro ln (2 * s + 1) σ = 0 then (0, σ) else if rg_ro ln (2 * s) σ = 0 then sd_na ln s σ
  else if sd_sg s σ (ln 14 s) 0 = -2 then (if sd_ts ln s σ (ln 14 s) (σ 6 s 7) = -2 then sd_na ln s σ else (1 + sd_ts ln s σ (ln 14 s) (σ 6 s 7), sd_it ln s (sd_ts ln s σ (ln 14 s) (σ 6 s 7)) σ))
  else (1 + sd_sg s σ (ln 14 s) 0, sd_sn ln s (sd_g2 ln s (sd_sg s σ (ln 14 s) 0) σ))
def gX6_sendNext (ln : sw_A) (s : Nat) (σ : sw_S) : sw_X := (lo ln ∧ fg ln σ ∧ bb σ ∧ vp_in (σ 6 s 7) (ln 14 s) ∧ ∀ w, 0 ≤ sd_cn w σ, some (.inl (sd_np ln s σ).1), (sd_np ln s σ).2)
def fX6_sendNext (ln : sw_A) : sw_F := sw_fo 6 (gX6_sendNext ln)
def ctX6_sendNext (ln : sw_A) : sw_C := [(128, 1, 4, fX3_hasRoom ln), (131, 1, 7, fX6_streamToGrant ln), (134, 2, 7, fX6_sendGrant ln), (137, 1, 7, fX6_streamToSend ln), (140, 2, 7, fX6_sendInTurn ln), (147, 1, 7, fX6_sendAck ln)]
abbrev wX6_sendNext (ln : sw_A) (Q : Option sw_V → sw_S → Prop) : Nat → Nat → sw_L → List sw_V → sw_S → Prop := sw_wp sw_rf ln (ctX6_sendNext ln) sX6_sendNext 1 77 tX6_sendNext Q
theorem hX6_sendNext (ln : sw_A) (s : Nat) (σ : sw_S) (h : (gX6_sendNext ln s σ).1) : ∃ fuel, wX6_sendNext ln (sw_end (gX6_sendNext ln s σ)) fuel 0 (sw_ent 3 [.inr (some (6, s))]) [] σ := by
  obtain ⟨hl, hg, hb, ht, hc⟩ := h
  have k62 : ∃ M, ∀ x1 x2, sd_np ln s σ = sd_na ln s σ → wX6_sendNext ln (sw_end (gX6_sendNext ln s σ)) M 62 [some (.inr (some (6, s))), x1, x2] [] σ := by
    refine ⟨20, fun x1 x2 hp => ?_⟩
    refine And.intro (fun (a1 : ¬ σ 6 s 9 = 0) => And.intro ⟨hl, hg⟩ ?_) (fun (a1 : σ 6 s 9 = 0) => ?_)
    · show some (Sum.inl 50) = some (Sum.inl (sd_np ln s σ).1) ∧ sd_ak ln s σ = (sd_np ln s σ).2
      rw [hp]
      unfold sd_na
      rw [if_neg a1]
      exact ⟨rfl, rfl⟩
    · show some (Sum.inl 0) = some (Sum.inl (sd_np ln s σ).1) ∧ σ = (sd_np ln s σ).2
      rw [hp]
      unfold sd_na
      rw [if_pos a1]
      exact ⟨rfl, rfl⟩
  obtain ⟨M, k62⟩ := k62
  refine ⟨M + 50, sw_ws_wp [62] M 50 _ _ _ _ ?_⟩
  refine And.intro trivial (And.intro (fun (a1 : ¬ rg_ro ln (2 * s + 1) σ = 0) => And.intro trivial (And.intro (fun (a2 : rg_ro ln (2 * s) σ = 0) => k62 _ _ ?_) (fun (a2 : ¬ rg_ro ln (2 * s) σ = 0) => And.intro hl (And.intro (fun (a3 : sd_sg s σ (ln 14 s) 0 = -2) => And.intro ⟨hl, ht, hb⟩ (And.intro (fun (a4 : sd_ts ln s σ (ln 14 s) (σ 6 s 7) = -2) => k62 _ _ ?_) (fun (a4 : ¬ sd_ts ln s σ (ln 14 s) (σ 6 s 7) = -2) => And.intro ⟨hl, hg, sd_ts_in hl _ _ ht a4, ht, hc _⟩ ?_))) (fun (a3 : ¬ sd_sg s σ (ln 14 s) 0 = -2) => And.intro ⟨hl, hg, sd_sg_in hl _ _ (by omega) a3⟩ ?_))))) (fun (a1 : rg_ro ln (2 * s + 1) σ = 0) => ?_))
  · unfold sd_np
    rw [if_neg a1, if_pos a2]
  · unfold sd_np
    rw [if_neg a1, if_neg a2, if_pos a3, if_pos a4]
  · show some (Sum.inl (1 + sd_ts ln s σ (ln 14 s) (σ 6 s 7))) = some (Sum.inl (sd_np ln s σ).1) ∧ sd_it ln s (sd_ts ln s σ (ln 14 s) (σ 6 s 7)) σ = (sd_np ln s σ).2
    unfold sd_np
    rw [if_neg a1, if_neg a2, if_pos a3, if_neg a4]
    exact ⟨rfl, rfl⟩
  · show some (Sum.inl (1 + sd_sg s σ (ln 14 s) 0)) = some (Sum.inl (sd_np ln s σ).1) ∧ sd_sn ln s (sd_g2 ln s (sd_sg s σ (ln 14 s) 0) σ) = (sd_np ln s σ).2
    unfold sd_np
    rw [if_neg a1, if_neg a2, if_neg a3]
    exact ⟨rfl, rfl⟩
  · show some (Sum.inl 0) = some (Sum.inl (sd_np ln s σ).1) ∧ σ = (sd_np ln s σ).2
    unfold sd_np
    rw [if_pos a1]
    exact ⟨rfl, rfl⟩
set_option maxRecDepth 100000 in
theorem mX6_sendNext {l : Launch} {ad : sw_A} {V : Nat → Nat → Prop} {ln : sw_A} {ca : Nat → ClassId} {D : va_G} (hG : sw_wf ad V sw_rf ln) : sw_met l ad V sw_rf ln ca D yX6_sendNext cX6_sendNext 3 (some .int) { frames := 6, cells := 0, slots := 0, locals := 127 } 1 (fX6_sendNext ln) := by
  refine sw_meth hG (by decide) (by refine ⟨?_, ?_, ?_, ?_⟩ <;> intro h <;> first | rfl | exact ⟨_, rfl⟩ | exact absurd h (by decide)) (by decide) kX6_sendNext flX6_in cnX6_in ?_ (sw_fo_h (W := fun Q L σ => ∃ fuel, wX6_sendNext ln Q fuel 0 L [] σ) (fun a0 σ h => hX6_sendNext ln a0 σ h))
  intro p e s m args below meth c S hT hnw
  refine List.forall_mem_cons.mpr ⟨sw_cokV S hT hnw (mX3_hasRoom hG) 128 3 (by decide) ⟨by decide +kernel, by decide +kernel, by decide +kernel, by decide +kernel, by decide +kernel⟩ ⟨rfl, by decide, by decide, by decide +kernel⟩ ⟨rfl, rfl⟩ ⟨by decide, by decide⟩, ?_⟩
  refine List.forall_mem_cons.mpr ⟨sw_cokV S hT hnw (mX6_streamToGrant hG) 131 6 (by decide) ⟨by decide +kernel, by decide +kernel, by decide +kernel, by decide +kernel, by decide +kernel⟩ ⟨rfl, by decide, by decide, by decide +kernel⟩ ⟨rfl, rfl⟩ ⟨by decide, by decide⟩, ?_⟩
  refine List.forall_mem_cons.mpr ⟨sw_cokV S hT hnw (mX6_sendGrant hG) 134 6 (by decide) ⟨by decide +kernel, by decide +kernel, by decide +kernel, by decide +kernel, by decide +kernel⟩ ⟨rfl, by decide, by decide, by decide +kernel⟩ ⟨rfl, rfl⟩ ⟨by decide, by decide⟩, ?_⟩
  refine List.forall_mem_cons.mpr ⟨sw_cokV S hT hnw (mX6_streamToSend hG) 137 6 (by decide) ⟨by decide +kernel, by decide +kernel, by decide +kernel, by decide +kernel, by decide +kernel⟩ ⟨rfl, by decide, by decide, by decide +kernel⟩ ⟨rfl, rfl⟩ ⟨by decide, by decide⟩, ?_⟩
  refine List.forall_mem_cons.mpr ⟨sw_cokV S hT hnw (mX6_sendInTurn hG) 140 6 (by decide) ⟨by decide +kernel, by decide +kernel, by decide +kernel, by decide +kernel, by decide +kernel⟩ ⟨rfl, by decide, by decide, by decide +kernel⟩ ⟨rfl, rfl⟩ ⟨by decide, by decide⟩, ?_⟩
  refine List.forall_mem_cons.mpr ⟨sw_cokV S hT hnw (mX6_sendAck hG) 147 6 (by decide) ⟨by decide +kernel, by decide +kernel, by decide +kernel, by decide +kernel, by decide +kernel⟩ ⟨rfl, by decide, by decide, by decide +kernel⟩ ⟨rfl, rfl⟩ ⟨by decide, by decide⟩, ?_⟩
  exact fun q h => absurd h List.not_mem_nil
