/-! Side: cells, taking and queueing -/
def sd_cx (σ : sw_S) : Option (Nat × Nat) → Int32
  | none => 0
  | some q => fr_ct σ q.2
def sd_io (ln : sw_A) (s : Nat) (σ : sw_S) : Nat → Int32
  | 0 => 0
  | n + 1 => sd_io ln s σ n + sd_cx σ (rg_fa ln (2 * s) (nI n) σ)
def gX6_itemsOut (ln : sw_A) (s : Nat) (σ : sw_S) : sw_X := (lo ln ∧ fg ln σ ∧ 0 ≤ σ 3 (2 * s) 2, some (.inl (sd_io ln s σ (σ 3 (2 * s) 2).toNatClampNeg)), σ)
def fX6_itemsOut (ln : sw_A) : sw_F := sw_fo 6 (gX6_itemsOut ln)
def ctX6_itemsOut (ln : sw_A) : sw_C := [(120, 1, 4, fX3_size ln), (121, 2, 4, fX3_frameAt ln), (125, 1, 3, fX2_count ln)]
abbrev wX6_itemsOut (ln : sw_A) (Q : Option sw_V → sw_S → Prop) : Nat → Nat → sw_L → List sw_V → sw_S → Prop := sw_wp sw_rf ln (ctX6_itemsOut ln) sX6_itemsOut 1 46 tX6_itemsOut Q
theorem hX6_itemsOut_l (ln : sw_A) (s n : Nat) (σ : sw_S) (X : sw_X) (hn : n < 2 ^ 31) (hl : lo ln) (hg : fg ln σ) (hz : σ 3 (2 * s) 2 = nI n) (hX : X.2 = (some (.inl (sd_io ln s σ n)), σ)) : ∀ (d j : Nat) (x3 : Option sw_V), j + d = n → ∃ fuel, wX6_itemsOut ln (sw_end X) fuel 4 [some (.inr (some (6, s))), some (.inl (sd_io ln s σ j)), some (.inl (nI j)), x3] [] σ := by
  intro d
  induction d with
  | zero =>
    intro j x3 hj
    have hj : j = n := by omega
    subst hj
    refine ⟨20, And.intro trivial (And.intro (fun _ => ?_) (fun (h : ¬ σ 3 (2 * s) 2 ≤ nI j) => absurd (by rw [hz]; exact Int32.le_refl _) h))⟩
    show some _ = X.2.1 ∧ σ = X.2.2
    rw [hX]
    exact ⟨rfl, rfl⟩
  | succ d ih =>
    intro j x3 hj
    obtain ⟨f, hf⟩ := ih (j + 1) (some (.inr (rg_fa ln (2 * s) (nI j) σ))) (by omega)
    rw [← nI_1] at hf
    have key : ∃ M, ∀ r, r = rg_fa ln (2 * s) (nI j) σ → wX6_itemsOut ln (sw_end X) M 23 [some (.inr (some (6, s))), some (.inl (sd_io ln s σ j)), some (.inl (nI j)), x3] [.inr r] σ := by
      refine ⟨f + 30, fun r hr => sw_ws_wp [4] f 30 _ _ _ _ ?_⟩
      have hs : sd_io ln s σ (j + 1) = sd_io ln s σ j + sd_cx σ r := by rw [hr]; rfl
      rw [← hr, hs] at hf
      cases r with
      | none => exact hf
      | some q =>
        obtain ⟨q1, q2⟩ := q
        have e1 : q1 = 2 := rg_fa_2 hr.symm
        subst e1
        exact And.intro (hg.ok hl q2) hf
    obtain ⟨M, key⟩ := key
    refine ⟨M + 30, sw_ws_wp [23] M 30 _ _ _ _ ?_⟩
    refine And.intro trivial (And.intro (fun (h : σ 3 (2 * s) 2 ≤ nI j) => absurd (by rw [← hz]; exact h) (nI_ge (a := j) (b := n) (by omega) hn)) (fun _ => And.intro (hl.1 13 (2 * s)) (key _ rfl)))
theorem hX6_itemsOut (ln : sw_A) (s : Nat) (σ : sw_S) (h : (gX6_itemsOut ln s σ).1) : ∃ fuel, wX6_itemsOut ln (sw_end (gX6_itemsOut ln s σ)) fuel 0 (sw_ent 4 [.inr (some (6, s))]) [] σ := by
  obtain ⟨n, hn, hz⟩ := nI_of (Int32.not_lt.mpr h.2.2)
  obtain ⟨f, hf⟩ := hX6_itemsOut_l ln s n σ (gX6_itemsOut ln s σ) hn h.1 h.2.1 hz (by
    show (some (Sum.inl (sd_io ln s σ (σ 3 (2 * s) 2).toNatClampNeg)), σ) = _
    rw [hz, nI_clamp hn]) n 0 none (by omega)
  exact ⟨f + 10, sw_ws_wp [4] f 10 _ _ _ _ hf⟩
set_option maxRecDepth 100000 in
theorem mX6_itemsOut {l : Launch} {ad : sw_A} {V : Nat → Nat → Prop} {ln : sw_A} {ca : Nat → ClassId} {D : va_G} (hG : sw_wf ad V sw_rf ln) : sw_met l ad V sw_rf ln ca D yX6_itemsOut cX6_itemsOut 4 (some .int) { frames := 2, cells := 0, slots := 0, locals := 43 } 1 (fX6_itemsOut ln) := by
  refine sw_meth hG (by decide) (by refine ⟨?_, ?_, ?_, ?_⟩ <;> intro h <;> first | rfl | exact ⟨_, rfl⟩ | exact absurd h (by decide)) (by decide) kX6_itemsOut flX6_in cnX6_in ?_ (sw_fo_h (W := fun Q L σ => ∃ fuel, wX6_itemsOut ln Q fuel 0 L [] σ) (fun a0 σ h => hX6_itemsOut ln a0 σ h))
  intro p e s m args below meth c S hT hnw
  refine List.forall_mem_cons.mpr ⟨sw_cokV S hT hnw (mX3_size hG) 120 3 (by decide) ⟨by decide +kernel, by decide +kernel, by decide +kernel, by decide +kernel, by decide +kernel⟩ ⟨rfl, by decide, by decide, by decide +kernel⟩ ⟨rfl, rfl⟩ ⟨by decide, by decide⟩, ?_⟩
  refine List.forall_mem_cons.mpr ⟨sw_cokV S hT hnw (mX3_frameAt hG) 121 3 (by decide) ⟨by decide +kernel, by decide +kernel, by decide +kernel, by decide +kernel, by decide +kernel⟩ ⟨rfl, by decide, by decide, by decide +kernel⟩ ⟨rfl, rfl⟩ ⟨by decide, by decide⟩, ?_⟩
  refine List.forall_mem_cons.mpr ⟨sw_cokV S hT hnw (mX2_count hG) 125 2 (by decide) ⟨by decide +kernel, by decide +kernel, by decide +kernel, by decide +kernel, by decide +kernel⟩ ⟨rfl, by decide, by decide, by decide +kernel⟩ ⟨rfl, rfl⟩ ⟨by decide, by decide⟩, ?_⟩
  exact fun q h => absurd h List.not_mem_nil
def sd_fc (s : Nat) (σ : sw_S) (a : Int32) : Nat → Int32
  | 0 => a
  | n + 1 => if σ 1 (8 * s + (nI n).toNatClampNeg) 3 = 0 then sd_fc s σ a n - σ 5 (2 * (8 * s + (nI n).toNatClampNeg)) 3 else sd_fc s σ a n - σ 5 (2 * (8 * s + (nI n).toNatClampNeg)) 3 - σ 4 0 5
def sd_fr (ln : sw_A) (s : Nat) (σ : sw_S) : Int32 := if 0 < sd_fc s σ (σ 4 0 3 - sd_io ln s σ (σ 3 (2 * s) 2).toNatClampNeg) (ln 14 s) then sd_fc s σ (σ 4 0 3 - sd_io ln s σ (σ 3 (2 * s) 2).toNatClampNeg) (ln 14 s) else 0
def gX6_freeCells (ln : sw_A) (s : Nat) (σ : sw_S) : sw_X := (lo ln ∧ fg ln σ ∧ 0 ≤ σ 3 (2 * s) 2, some (.inl (sd_fr ln s σ)), σ)
def fX6_freeCells (ln : sw_A) : sw_F := sw_fo 6 (gX6_freeCells ln)
def ctX6_freeCells (ln : sw_A) : sw_C := [(111, 1, 7, fX6_itemsOut ln), (92, 1, 6, fX5_size ln), (114, 2, 0, sw_max)]
abbrev wX6_freeCells (ln : sw_A) (Q : Option sw_V → sw_S → Prop) : Nat → Nat → sw_L → List sw_V → sw_S → Prop := sw_wp sw_rf ln (ctX6_freeCells ln) sX6_freeCells 1 76 tX6_freeCells Q
theorem hX6_freeCells_l (ln : sw_A) (s n : Nat) (σ : sw_S) (a : Int32) (X : sw_X) (hn : n < 2 ^ 31) (hz : ln 14 s = n) (hX : X.2 = (some (.inl (if 0 < sd_fc s σ a n then sd_fc s σ a n else 0)), σ)) : ∀ (d j : Nat) (x5 : Option sw_V), j + d = n → ∃ fuel, wX6_freeCells ln (sw_end X) fuel 24 [some (.inr (some (6, s))), some (.inl (sd_fc s σ a j)), some (.inr (some (14, s))), some (.inl (nI n)), some (.inl (nI j)), x5] [] σ := by
  intro d
  induction d with
  | zero =>
    intro j x5 hj
    have hj : j = n := by omega
    subst hj
    refine ⟨20, And.intro (fun _ => And.intro trivial ?_) (fun (h : ¬ nI j ≤ nI j) => absurd (Int32.le_refl _) h)⟩
    show some _ = X.2.1 ∧ σ = X.2.2
    rw [hX]
    exact ⟨rfl, rfl⟩
  | succ d ih =>
    intro j x5 hj
    have v1 : vp_in (nI j) (ln 14 s) := by rw [hz]; exact vp_in_nI (by omega) hn
    obtain ⟨f, hf⟩ := ih (j + 1) (some (.inr (some (1, 8 * s + (nI j).toNatClampNeg)))) (by omega)
    rw [← nI_1] at hf
    refine ⟨f + 40, sw_ws_wp [24] f 40 _ _ _ _ ?_⟩
    refine And.intro (fun (h : nI n ≤ nI j) => absurd h (nI_ge (a := j) (b := n) (by omega) hn)) (fun _ => And.intro v1 (And.intro trivial (And.intro (fun (h1 : σ 1 (8 * s + (nI j).toNatClampNeg) 3 = 0) => ?_) (fun (h1 : ¬ σ 1 (8 * s + (nI j).toNatClampNeg) 3 = 0) => ?_))))
    · rw [show sd_fc s σ a (j + 1) = _ from if_pos h1] at hf
      exact hf
    · rw [show sd_fc s σ a (j + 1) = _ from if_neg h1] at hf
      exact hf
theorem hX6_freeCells (ln : sw_A) (s : Nat) (σ : sw_S) (h : (gX6_freeCells ln s σ).1) : ∃ fuel, wX6_freeCells ln (sw_end (gX6_freeCells ln s σ)) fuel 0 (sw_ent 6 [.inr (some (6, s))]) [] σ := by
  obtain ⟨f, hf⟩ := hX6_freeCells_l ln s (ln 14 s) σ (σ 4 0 3 - sd_io ln s σ (σ 3 (2 * s) 2).toNatClampNeg) (gX6_freeCells ln s σ) (h.1.1 14 s) rfl rfl (ln 14 s) 0 none (by omega)
  exact ⟨f + 20, sw_ws_wp [24] f 20 _ _ _ _ (And.intro h hf)⟩
set_option maxRecDepth 100000 in
theorem mX6_freeCells {l : Launch} {ad : sw_A} {V : Nat → Nat → Prop} {ln : sw_A} {ca : Nat → ClassId} {D : va_G} (hG : sw_wf ad V sw_rf ln) : sw_met l ad V sw_rf ln ca D yX6_freeCells cX6_freeCells 6 (some .int) { frames := 3, cells := 0, slots := 0, locals := 66 } 1 (fX6_freeCells ln) := by
  refine sw_meth hG (by decide) (by refine ⟨?_, ?_, ?_, ?_⟩ <;> intro h <;> first | rfl | exact ⟨_, rfl⟩ | exact absurd h (by decide)) (by decide) kX6_freeCells flX6_in cnX6_in ?_ (sw_fo_h (W := fun Q L σ => ∃ fuel, wX6_freeCells ln Q fuel 0 L [] σ) (fun a0 σ h => hX6_freeCells ln a0 σ h))
  intro p e s m args below meth c S hT hnw
  refine List.forall_mem_cons.mpr ⟨sw_cokV S hT hnw (mX6_itemsOut hG) 111 6 (by decide) ⟨by decide +kernel, by decide +kernel, by decide +kernel, by decide +kernel, by decide +kernel⟩ ⟨rfl, by decide, by decide, by decide +kernel⟩ ⟨rfl, rfl⟩ ⟨by decide, by decide⟩, ?_⟩
  refine List.forall_mem_cons.mpr ⟨sw_cokV S hT hnw (mX5_size hG) 92 5 (by decide) ⟨by decide +kernel, by decide +kernel, by decide +kernel, by decide +kernel, by decide +kernel⟩ ⟨rfl, by decide, by decide, by decide +kernel⟩ ⟨rfl, rfl⟩ ⟨by decide, by decide⟩, ?_⟩
  refine List.forall_mem_cons.mpr ⟨sw_cokX S 114 (by decide +kernel) ⟨by decide, by decide⟩, ?_⟩
  exact fun q h => absurd h List.not_mem_nil
def sd_qi (ln : sw_A) (s w : Nat) (σ : sw_S) : Int32 := if σ 1 w 3 = 1 then (if sd_fr ln s σ = 0 then 2 else 1) else 0
def gX6_queueItem (ln : sw_A) (s w : Nat) (x b : Int32) (σ : sw_S) : sw_X := ((lo ln ∧ fg ln σ ∧ 0 ≤ σ 3 (2 * s) 2) ∧ sw_bo b, some (.inl (sd_qi ln s w σ)), if σ 1 w 3 = 1 then (if sd_fr ln s σ = 0 then σ else qu_pu ln (2 * w) x b σ) else σ)
def fX6_queueItem (ln : sw_A) : sw_F := sw_fooii 6 1 (gX6_queueItem ln)
def ctX6_queueItem (ln : sw_A) : sw_C := [(76, 1, 7, fX6_freeCells ln), (83, 3, 6, fX5_put ln)]
abbrev wX6_queueItem (ln : sw_A) (Q : Option sw_V → sw_S → Prop) : Nat → Nat → sw_L → List sw_V → sw_S → Prop := sw_wp sw_rf ln (ctX6_queueItem ln) sX6_queueItem 1 29 tX6_queueItem Q
theorem hX6_queueItem (ln : sw_A) (s w : Nat) (x b : Int32) (σ : sw_S) (h : (gX6_queueItem ln s w x b σ).1) : ∃ fuel, wX6_queueItem ln (sw_end (gX6_queueItem ln s w x b σ)) fuel 0 (sw_ent 4 [.inr (some (6, s)), .inr (some (1, w)), .inl x, .inl b]) [] σ :=
  ⟨30, And.intro (fun (h1 : σ 1 w 3 = 1) => And.intro h.1 (And.intro (fun (h2 : ¬ sd_fr ln s σ = 0) => And.intro ⟨h.1.1.ce _, h.2⟩ ⟨sw_ri ((if_pos h1).trans (if_neg h2)).symm, ((if_pos h1).trans (if_neg h2)).symm⟩) (fun (h2 : sd_fr ln s σ = 0) => ⟨sw_ri ((if_pos h1).trans (if_pos h2)).symm, ((if_pos h1).trans (if_pos h2)).symm⟩))) (fun (h1 : ¬ σ 1 w 3 = 1) => ⟨sw_ri (if_neg h1).symm, (if_neg h1).symm⟩)⟩
set_option maxRecDepth 100000 in
theorem mX6_queueItem {l : Launch} {ad : sw_A} {V : Nat → Nat → Prop} {ln : sw_A} {ca : Nat → ClassId} {D : va_G} (hG : sw_wf ad V sw_rf ln) : sw_met l ad V sw_rf ln ca D yX6_queueItem cX6_queueItem 4 (some .int) { frames := 4, cells := 0, slots := 0, locals := 91 } 4 (fX6_queueItem ln) := by
  refine sw_meth hG (by decide) (by refine ⟨?_, ?_, ?_, ?_⟩ <;> intro h <;> first | rfl | exact ⟨_, rfl⟩ | exact absurd h (by decide)) (by decide) kX6_queueItem flX6_in cnX6_in ?_ (sw_fooii_h (W := fun Q L σ => ∃ fuel, wX6_queueItem ln Q fuel 0 L [] σ) (fun a0 a1 a2 a3 σ h => hX6_queueItem ln a0 a1 a2 a3 σ h))
  intro p e s m args below meth c S hT hnw
  refine List.forall_mem_cons.mpr ⟨sw_cokV S hT hnw (mX6_freeCells hG) 76 6 (by decide) ⟨by decide +kernel, by decide +kernel, by decide +kernel, by decide +kernel, by decide +kernel⟩ ⟨rfl, by decide, by decide, by decide +kernel⟩ ⟨rfl, rfl⟩ ⟨by decide, by decide⟩, ?_⟩
  refine List.forall_mem_cons.mpr ⟨sw_cokV S hT hnw (mX5_put hG) 83 5 (by decide) ⟨by decide +kernel, by decide +kernel, by decide +kernel, by decide +kernel, by decide +kernel⟩ ⟨rfl, by decide, by decide, by decide +kernel⟩ ⟨rfl, rfl⟩ ⟨by decide, by decide⟩, ?_⟩
  exact fun q h => absurd h List.not_mem_nil
def sd_t1 (ln : sw_A) (s w : Nat) (σ : sw_S) : sw_S := if qu_om ln (2 * w + 1) σ = 0 then sw_up σ 6 s 10 (qu_ow ln (2 * w + 1) σ) else σ
def sd_ti (ln : sw_A) (w : Nat) (σ : sw_S) : Int32 := if σ 1 w 3 = 0 then 0 else if σ 5 (2 * w + 1) 3 = 0 then (if σ 1 w 9 = 0 then 3 else 4) else if qu_om ln (2 * w + 1) σ = 0 then 1 else 2
def sd_tt (ln : sw_A) (s w : Nat) (σ : sw_S) : sw_S := if σ 1 w 3 = 0 then σ else if σ 5 (2 * w + 1) 3 = 0 then σ else (gX1_dropTaken ln w (sd_t1 ln s w σ)).2.2
def gX6_takeItem (ln : sw_A) (s w : Nat) (σ : sw_S) : sw_X := (lo ln ∧ sw_bo (σ 1 w 9), some (.inl (sd_ti ln w σ)), sd_tt ln s w σ)
def fX6_takeItem (ln : sw_A) : sw_F := sw_foo 6 1 (gX6_takeItem ln)
def ctX6_takeItem (ln : sw_A) : sw_C := [(92, 1, 6, fX5_size ln), (95, 1, 2, fX1_isShut ln), (99, 1, 6, fX5_oldestIsMark ln), (102, 1, 6, fX5_oldestWord ln), (108, 1, 2, fX1_dropTaken ln)]
abbrev wX6_takeItem (ln : sw_A) (Q : Option sw_V → sw_S → Prop) : Nat → Nat → sw_L → List sw_V → sw_S → Prop := sw_wp sw_rf ln (ctX6_takeItem ln) sX6_takeItem 1 68 tX6_takeItem Q
theorem hX6_takeItem (ln : sw_A) (s w : Nat) (σ : sw_S) (h : (gX6_takeItem ln s w σ).1) : ∃ fuel, wX6_takeItem ln (sw_end (gX6_takeItem ln s w σ)) fuel 0 (sw_ent 3 [.inr (some (6, s)), .inr (some (1, w))]) [] σ := by
  have hce := h.1.ce ((2 * w + 1) / 16)
  refine ⟨50, And.intro (fun (h1 : ¬ σ 1 w 3 = 0) => And.intro trivial (And.intro (fun (h2 : ¬ σ 5 (2 * w + 1) 3 = 0) => And.intro hce (And.intro (fun (h3 : ¬ qu_om ln (2 * w + 1) σ = 0) => And.intro hce (And.intro (fun (h4 : qu_om ln (2 * w + 1) σ = 0) => absurd h4 h3) (fun _ => ⟨sw_ri ?_, ?_⟩))) (fun (h3 : qu_om ln (2 * w + 1) σ = 0) => And.intro hce (And.intro hce (And.intro (fun _ => ⟨sw_ri ?_, ?_⟩) (fun (h4 : ¬ qu_om ln (2 * w + 1) σ = 0) => absurd h3 h4)))))) (fun (h2 : σ 5 (2 * w + 1) 3 = 0) => And.intro h.2 (And.intro (fun (h3 : σ 1 w 9 = 0) => ⟨sw_ri ?_, ?_⟩) (fun (h3 : ¬ σ 1 w 9 = 0) => ⟨sw_ri ?_, ?_⟩))))) (fun (h1 : σ 1 w 3 = 0) => ⟨sw_ri (if_pos h1).symm, (if_pos h1).symm⟩)⟩
  · unfold sd_ti; rw [if_neg h1, if_neg h2, if_neg h3]
  · show _ = sd_tt ln s w σ
    unfold sd_tt sd_t1; rw [if_neg h1, if_neg h2, if_neg h3]; rfl
  · unfold sd_ti; rw [if_neg h1, if_neg h2, if_pos h3]
  · show _ = sd_tt ln s w σ
    unfold sd_tt sd_t1; rw [if_neg h1, if_neg h2, if_pos h3]; rfl
  · unfold sd_ti; rw [if_neg h1, if_pos h2, if_pos h3]
  · show _ = sd_tt ln s w σ
    unfold sd_tt; rw [if_neg h1, if_pos h2]; rfl
  · unfold sd_ti; rw [if_neg h1, if_pos h2, if_neg h3]
  · show _ = sd_tt ln s w σ
    unfold sd_tt; rw [if_neg h1, if_pos h2]; rfl
set_option maxRecDepth 100000 in
theorem mX6_takeItem {l : Launch} {ad : sw_A} {V : Nat → Nat → Prop} {ln : sw_A} {ca : Nat → ClassId} {D : va_G} (hG : sw_wf ad V sw_rf ln) : sw_met l ad V sw_rf ln ca D yX6_takeItem cX6_takeItem 3 (some .int) { frames := 4, cells := 0, slots := 0, locals := 83 } 2 (fX6_takeItem ln) := by
  refine sw_meth hG (by decide) (by refine ⟨?_, ?_, ?_, ?_⟩ <;> intro h <;> first | rfl | exact ⟨_, rfl⟩ | exact absurd h (by decide)) (by decide) kX6_takeItem flX6_in cnX6_in ?_ (sw_foo_h (W := fun Q L σ => ∃ fuel, wX6_takeItem ln Q fuel 0 L [] σ) (fun a0 a1 σ h => hX6_takeItem ln a0 a1 σ h))
  intro p e s m args below meth c S hT hnw
  refine List.forall_mem_cons.mpr ⟨sw_cokV S hT hnw (mX5_size hG) 92 5 (by decide) ⟨by decide +kernel, by decide +kernel, by decide +kernel, by decide +kernel, by decide +kernel⟩ ⟨rfl, by decide, by decide, by decide +kernel⟩ ⟨rfl, rfl⟩ ⟨by decide, by decide⟩, ?_⟩
  refine List.forall_mem_cons.mpr ⟨sw_cokV S hT hnw (mX1_isShut hG) 95 1 (by decide) ⟨by decide +kernel, by decide +kernel, by decide +kernel, by decide +kernel, by decide +kernel⟩ ⟨rfl, by decide, by decide, by decide +kernel⟩ ⟨rfl, rfl⟩ ⟨by decide, by decide⟩, ?_⟩
  refine List.forall_mem_cons.mpr ⟨sw_cokV S hT hnw (mX5_oldestIsMark hG) 99 5 (by decide) ⟨by decide +kernel, by decide +kernel, by decide +kernel, by decide +kernel, by decide +kernel⟩ ⟨rfl, by decide, by decide, by decide +kernel⟩ ⟨rfl, rfl⟩ ⟨by decide, by decide⟩, ?_⟩
  refine List.forall_mem_cons.mpr ⟨sw_cokV S hT hnw (mX5_oldestWord hG) 102 5 (by decide) ⟨by decide +kernel, by decide +kernel, by decide +kernel, by decide +kernel, by decide +kernel⟩ ⟨rfl, by decide, by decide, by decide +kernel⟩ ⟨rfl, rfl⟩ ⟨by decide, by decide⟩, ?_⟩
  refine List.forall_mem_cons.mpr ⟨sw_cokV S hT hnw (mX1_dropTaken hG) 108 1 (by decide) ⟨by decide +kernel, by decide +kernel, by decide +kernel, by decide +kernel, by decide +kernel⟩ ⟨rfl, by decide, by decide, by decide +kernel⟩ ⟨rfl, rfl⟩ ⟨by decide, by decide⟩, ?_⟩
  exact fun q h => absurd h List.not_mem_nil
