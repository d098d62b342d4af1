/-! Side: what holds all along; the small methods -/
def lo (ln : sw_A) : Prop := (∀ c k, ln c k < 2 ^ 31) ∧ ∀ k, ln 9 k = ln 11 k ∧ ln 10 k = ln 11 k
def fg (ln : sw_A) (σ : sw_S) : Prop := ∀ k, 0 ≤ σ 2 k 1 ∧ σ 2 k 1 ≤ nI (ln 12 k)
theorem lo.ce {ln : sw_A} (h : lo ln) (k : Nat) : ce_ok ln k := ⟨(h.2 k).1, (h.2 k).2, h.1 11 k⟩
theorem fg.ok {ln : sw_A} {σ : sw_S} (h : fg ln σ) (hl : lo ln) (k : Nat) : fr_ok ln k σ := ⟨(h k).2, hl.1 12 k⟩
theorem fg_eq {ln : sw_A} {σ s : sw_S} (h : fg ln σ) (he : ∀ k, s 2 k 1 = σ 2 k 1) : fg ln s := fun k => by rw [he]; exact h k
theorem sw_upe (σ : sw_S) (c k j : Nat) (v : Int32) : sw_up σ c k j v c k j = v := if_pos ⟨rfl, rfl, rfl⟩
theorem sw_upj (σ : sw_S) {c k j c' k' j' : Nat} {v : Int32} (h : ¬ j' = j) : sw_up σ c k j v c' k' j' = σ c' k' j' := if_neg (fun z => h z.2.2)
theorem sw_upi (σ : sw_S) {c k j c' k' j' : Nat} {v : Int32} (h : ¬ k' = k) : sw_up σ c k j v c' k' j' = σ c' k' j' := if_neg (fun z => h z.2.1)
/-- a length is written -/
theorem fg_up {ln : sw_A} {σ : sw_S} (h : fg ln σ) {k : Nat} {v : Int32} (h0 : 0 ≤ v) (h1 : v ≤ nI (ln 12 k)) : fg ln (sw_up σ 2 k 1 v) := fun i => by
  by_cases hi : i = k
  · subst hi
    rw [sw_upe]
    exact ⟨h0, h1⟩
  · rw [sw_upi _ hi]
    exact h i
theorem fg_upk {ln : sw_A} {σ : sw_S} (h : fg ln σ) {c k j : Nat} {v : Int32} (hc : ¬ 2 = c) : fg ln (sw_up σ c k j v) := fg_eq h (fun _ => sw_upk _ hc)
theorem i32_succ_le {x : Int32} {n : Nat} (hn : n < 2 ^ 31) (h0 : 0 ≤ x) (h : x < nI n) : 0 ≤ x + 1 ∧ x + 1 ≤ nI n := by
  obtain ⟨j, hj, rfl⟩ := nI_of (Int32.not_lt.mpr h0)
  rw [nI_ltI hj hn] at h
  rw [nI_1]
  exact ⟨nI_pos' (by omega), nI_le (by omega) hn⟩
theorem put_go {ln : sw_A} {σ : sw_S} (hl : lo ln) (h : fg ln σ) (k : Nat) (x : Int32) : fg ln (gX2_put ln k x σ).2.2 := by
  show fg ln (if σ 2 k 1 < nI (ln 12 k) then sw_up (sw_up σ 12 k (σ 2 k 1).toNatClampNeg x) 2 k 1 (σ 2 k 1 + 1) else σ)
  split
  · rename_i hlt
    have := i32_succ_le (hl.1 12 k) (h k).1 hlt
    exact fg_up (fg_upk h (by decide)) this.1 this.2
  · exact h
theorem flip_go {ln : sw_A} {σ : sw_S} (h : fg ln σ) (k : Nat) (i x : Int32) : fg ln (gX2_flip ln k i x σ).2.2 := by
  show fg ln (if 0 ≤ i ∧ i < σ 2 k 1 then sw_up σ 12 k i.toNatClampNeg _ else σ)
  split
  · exact fg_upk h (by decide)
  · exact h
theorem begin_go {ln : sw_A} {σ : sw_S} (hl : lo ln) (h : fg ln σ) (k : Nat) (x : Int32) : (gX2_begin ln k x σ).1 ∧ fg ln (gX2_begin ln k x σ).2.2 := by
  have h2 : fg ln (sw_up σ 2 k 1 0) := fg_up h (Int32.le_refl _) (nI_pos' (hl.1 12 k))
  exact ⟨⟨(h2 k).1, hl.1 12 k⟩, put_go hl h2 k x⟩
theorem seal_go {ln : sw_A} {σ : sw_S} (hl : lo ln) (h : fg ln σ) (k : Nat) : (gX2_seal ln k σ).1 ∧ fg ln (gX2_seal ln k σ).2.2 := ⟨⟨h.ok hl k, (h k).1⟩, put_go hl h k _⟩
theorem fr_cl_go {ln : sw_A} {σ : sw_S} (hl : lo ln) (h : fg ln σ) (k o : Nat) : 0 ≤ fr_cl ln k o σ ∧ fr_cl ln k o σ ≤ nI (ln 12 k) := by
  unfold fr_cl
  split
  · rename_i z
    exact ⟨(h o).1, Int32.le_of_lt z⟩
  · exact ⟨nI_pos' (hl.1 12 k), Int32.le_refl _⟩
theorem copy_go {ln : sw_A} {σ : sw_S} (hl : lo ln) (h : fg ln σ) (k o : Nat) : (gX2_copyFrom ln k o σ).1 ∧ fg ln (gX2_copyFrom ln k o σ).2.2 := by
  refine ⟨⟨(h o).1, h.ok hl o, hl.1 12 k⟩, ?_⟩
  refine fg_eq (fg_up h (fr_cl_go hl h k o).1 (fr_cl_go hl h k o).2) (fun i => ?_)
  exact fr_cp_k k o (by decide) i 1 _ _
theorem renew_go {ln : sw_A} {σ : sw_S} (hl : lo ln) (h : fg ln σ) (k : Nat) (x : Int32) : (gX2_renew ln k x σ).1 ∧ fg ln (gX2_renew ln k x σ).2.2 := by
  have h1 : fg ln (fr_rf ln k x σ) := flip_go h k _ _
  have h2 : fg ln (fr_re ln k x σ) := by
    unfold fr_re
    by_cases hp : 0 < fr_rl (fr_rf ln k x σ) k
    · rw [if_pos hp]
      refine fg_up h1 (Int32.le_of_lt hp) ?_
      obtain ⟨j, hj, hj2⟩ := nI_of (Int32.not_lt.mpr (h1 k).1)
      have h3 := (h1 k).2
      unfold fr_rl at hp ⊢
      rw [hj2] at hp h3 ⊢
      rw [nI_leI hj (hl.1 12 k)] at h3
      cases j with
      | zero => exact absurd hp (by decide)
      | succ j =>
        rw [nI_pred]
        exact nI_le (by omega) (hl.1 12 k)
    · rw [if_neg hp]
      exact fg_up h1 (Int32.le_refl _) (nI_pos' (hl.1 12 k))
  have h3 := seal_go hl h2 k
  exact ⟨⟨h.ok hl k, h3.1⟩, h3.2⟩
theorem rg_at_2 {ln : sw_A} {r : Nat} {i : Int32} {σ : sw_S} {q : Nat × Nat} (h : rg_at ln r i σ = some q) : q.1 = 2 := by
  unfold rg_at at h
  split at h
  · cases h
  · split at h
    · cases h
    · cases h; rfl
theorem rg_fa_2 {ln : sw_A} {r : Nat} {i : Int32} {σ : sw_S} {q : Nat × Nat} (h : rg_fa ln r i σ = some q) : q.1 = 2 := by
  unfold rg_fa at h
  split at h
  · cases h
  · split at h
    · cases h
    · exact rg_at_2 h
theorem rg_as_2 {ln : sw_A} {r : Nat} {σ : sw_S} {q : Nat × Nat} (h : rg_as ln r σ = some q) : q.1 = 2 := by
  unfold rg_as at h
  split at h
  · cases h
  · exact rg_at_2 h
theorem add_go {ln : sw_A} {σ : sw_S} (hl : lo ln) (h : fg ln σ) (r f : Nat) : (gX3_add ln r f σ).1 ∧ fg ln (gX3_add ln r f σ).2.2 := by
  refine ⟨⟨hl.1 13 r, fun q hq => ⟨rg_as_2 hq, (copy_go hl h q.2 f).1⟩⟩, ?_⟩
  show fg ln (rg_ad ln r f σ (rg_as ln r σ))
  cases rg_as ln r σ with
  | none => exact h
  | some q => exact fg_upk (copy_go hl h q.2 f).2 (by decide)
def sd_fa (ln : sw_A) (s : Nat) (i : Int32) : Option (Nat × Nat) := if i < 0 then none else if nI (ln 14 s) ≤ i then none else some (1, 8 * s + i.toNatClampNeg)
theorem sd_fa_in {ln : sw_A} {s : Nat} {i : Int32} (hl : lo ln) (h : vp_in i (ln 14 s)) : sd_fa ln s i = some (1, 8 * s + i.toNatClampNeg) := by
  obtain ⟨j, hj, rfl⟩ := vp_in_of h (hl.1 14 s)
  have hs := hl.1 14 s
  unfold sd_fa
  rw [if_neg (nI_pos (by omega)), if_neg (nI_ge hj hs)]
def gX6_flowAt (ln : sw_A) (s : Nat) (i : Int32) (σ : sw_S) : sw_X := (ln 14 s < 2 ^ 31, some (.inr (sd_fa ln s i)), σ)
def fX6_flowAt (ln : sw_A) : sw_F := sw_foi 6 (gX6_flowAt ln)
def ctX6_flowAt (ln : sw_A) : sw_C := []
abbrev wX6_flowAt (ln : sw_A) (Q : Option sw_V → sw_S → Prop) : Nat → Nat → sw_L → List sw_V → sw_S → Prop := sw_wp sw_rf ln (ctX6_flowAt ln) sX6_flowAt 3 23 tX6_flowAt Q
theorem hX6_flowAt (ln : sw_A) (s : Nat) (i : Int32) (σ : sw_S) (h : (gX6_flowAt ln s i σ).1) : ∃ fuel, wX6_flowAt ln (sw_end (gX6_flowAt ln s i σ)) fuel 0 (sw_ent 2 [.inr (some (6, s)), .inl i]) [] σ :=
  ⟨20, And.intro (fun (h1 : i < 0) => ⟨sw_rr (if_pos h1).symm, rfl⟩) (fun (h1 : ¬ i < 0) => And.intro (fun (h2 : nI (ln 14 s) ≤ i) => ⟨sw_rr ((if_neg h1).trans (if_pos h2)).symm, rfl⟩) (fun (h2 : ¬ nI (ln 14 s) ≤ i) => And.intro (show vp_in i (ln 14 s) from vp_in_lt h1 (Int32.not_le.mp h2) (Int32.le_refl _) h) ⟨sw_rr ((if_neg h1).trans (if_neg h2)).symm, rfl⟩))⟩
set_option maxRecDepth 100000 in
theorem mX6_flowAt {l : Launch} {ad : sw_A} {V : Nat → Nat → Prop} {ln : sw_A} {ca : Nat → ClassId} {D : va_G} (hG : sw_wf ad V sw_rf ln) : sw_met l ad V sw_rf ln ca D yX6_flowAt cX6_flowAt 2 (some (.object "StreamWires$Flow")) { frames := 0, cells := 0, slots := 0, locals := 0 } 2 (fX6_flowAt ln) := by
  refine sw_meth hG (by decide) (by refine ⟨?_, ?_, ?_, ?_⟩ <;> intro h <;> first | rfl | exact ⟨_, rfl⟩ | exact absurd h (by decide)) (by decide) kX6_flowAt flX6_in cnX6_in ?_ (sw_foi_h (W := fun Q L σ => ∃ fuel, wX6_flowAt ln Q fuel 0 L [] σ) (fun a0 a1 σ h => hX6_flowAt ln a0 a1 σ h))
  intro p e s m args below meth c S hT hnw
  exact fun q h => absurd h List.not_mem_nil
def sd_sa (ln : sw_A) (s : Nat) (i : Int32) : Int32 := if nI (ln 14 s) ≤ i + 1 then 0 else i + 1
def gX6_streamAfter (ln : sw_A) (s : Nat) (i : Int32) (σ : sw_S) : sw_X := (True, some (.inl (sd_sa ln s i)), σ)
def fX6_streamAfter (ln : sw_A) : sw_F := sw_foi 6 (gX6_streamAfter ln)
def ctX6_streamAfter (ln : sw_A) : sw_C := []
abbrev wX6_streamAfter (ln : sw_A) (Q : Option sw_V → sw_S → Prop) : Nat → Nat → sw_L → List sw_V → sw_S → Prop := sw_wp sw_rf ln (ctX6_streamAfter ln) sX6_streamAfter 1 18 tX6_streamAfter Q
theorem hX6_streamAfter (ln : sw_A) (s : Nat) (i : Int32) (σ : sw_S) (h : (gX6_streamAfter ln s i σ).1) : ∃ fuel, wX6_streamAfter ln (sw_end (gX6_streamAfter ln s i σ)) fuel 0 (sw_ent 2 [.inr (some (6, s)), .inl i]) [] σ :=
  ⟨20, And.intro (fun (h1 : nI (ln 14 s) ≤ i + 1) => ⟨sw_ri (if_pos h1).symm, rfl⟩) (fun (h1 : ¬ nI (ln 14 s) ≤ i + 1) => ⟨sw_ri (if_neg h1).symm, rfl⟩)⟩
set_option maxRecDepth 100000 in
theorem mX6_streamAfter {l : Launch} {ad : sw_A} {V : Nat → Nat → Prop} {ln : sw_A} {ca : Nat → ClassId} {D : va_G} (hG : sw_wf ad V sw_rf ln) : sw_met l ad V sw_rf ln ca D yX6_streamAfter cX6_streamAfter 2 (some .int) { frames := 0, cells := 0, slots := 0, locals := 0 } 2 (fX6_streamAfter ln) := by
  refine sw_meth hG (by decide) (by refine ⟨?_, ?_, ?_, ?_⟩ <;> intro h <;> first | rfl | exact ⟨_, rfl⟩ | exact absurd h (by decide)) (by decide) kX6_streamAfter flX6_in cnX6_in ?_ (sw_foi_h (W := fun Q L σ => ∃ fuel, wX6_streamAfter ln Q fuel 0 L [] σ) (fun a0 a1 σ h => hX6_streamAfter ln a0 a1 σ h))
  intro p e s m args below meth c S hT hnw
  exact fun q h => absurd h List.not_mem_nil
theorem sd_sa_in {ln : sw_A} {s : Nat} {i : Int32} (hl : lo ln) (h : vp_in i (ln 14 s)) : vp_in (sd_sa ln s i) (ln 14 s) := by
  obtain ⟨j, hj, rfl⟩ := vp_in_of h (hl.1 14 s)
  have hs := hl.1 14 s
  unfold sd_sa
  rw [nI_1]
  split
  · rw [← nI_0]
    exact vp_in_nI (by omega) hs
  · rename_i z
    rw [nI_leI hs (by omega)] at z
    exact vp_in_nI (by omega) hs
def sd_bt (s : Nat) (i : Int32) (σ : sw_S) : sw_S := sw_up (sw_up σ 6 s 7 i) 6 s 8 (sw_up σ 6 s 7 i 1 (8 * s + i.toNatClampNeg) 4)
def gX6_beginTurn (ln : sw_A) (s : Nat) (i : Int32) (σ : sw_S) : sw_X := (lo ln ∧ vp_in i (ln 14 s), none, sd_bt s i σ)
def fX6_beginTurn (ln : sw_A) : sw_F := sw_foi 6 (gX6_beginTurn ln)
def ctX6_beginTurn (ln : sw_A) : sw_C := [(156, 2, 7, fX6_flowAt ln)]
abbrev wX6_beginTurn (ln : sw_A) (Q : Option sw_V → sw_S → Prop) : Nat → Nat → sw_L → List sw_V → sw_S → Prop := sw_wp sw_rf ln (ctX6_beginTurn ln) sX6_beginTurn 0 23 tX6_beginTurn Q
theorem hX6_beginTurn (ln : sw_A) (s : Nat) (i : Int32) (σ : sw_S) (h : (gX6_beginTurn ln s i σ).1) : ∃ fuel, wX6_beginTurn ln (sw_end (gX6_beginTurn ln s i σ)) fuel 0 (sw_ent 3 [.inr (some (6, s)), .inl i]) [] σ := by
  have key : ∃ M, ∀ r, r = some (1, 8 * s + i.toNatClampNeg) → wX6_beginTurn ln (sw_end (gX6_beginTurn ln s i σ)) M 5 [some (.inr (some (6, s))), some (.inl i), none] [.inr r] σ := by
    refine ⟨20, fun r hr => ?_⟩
    subst hr
    exact ⟨rfl, rfl⟩
  obtain ⟨M, key⟩ := key
  refine ⟨M + 10, sw_ws_wp [5] M 10 _ _ _ _ ?_⟩
  exact And.intro (h.1.1 14 s) (key _ (sd_fa_in h.1 h.2))
set_option maxRecDepth 100000 in
theorem mX6_beginTurn {l : Launch} {ad : sw_A} {V : Nat → Nat → Prop} {ln : sw_A} {ca : Nat → ClassId} {D : va_G} (hG : sw_wf ad V sw_rf ln) : sw_met l ad V sw_rf ln ca D yX6_beginTurn cX6_beginTurn 3 none { frames := 1, cells := 0, slots := 0, locals := 21 } 2 (fX6_beginTurn ln) := by
  refine sw_meth hG (by decide) (by refine ⟨?_, ?_, ?_, ?_⟩ <;> intro h <;> first | rfl | exact ⟨_, rfl⟩ | exact absurd h (by decide)) (by decide) kX6_beginTurn flX6_in cnX6_in ?_ (sw_foi_h (W := fun Q L σ => ∃ fuel, wX6_beginTurn ln Q fuel 0 L [] σ) (fun a0 a1 σ h => hX6_beginTurn ln a0 a1 σ h))
  intro p e s m args below meth c S hT hnw
  refine List.forall_mem_cons.mpr ⟨sw_cokV S hT hnw (mX6_flowAt hG) 156 6 (by decide) ⟨by decide +kernel, by decide +kernel, by decide +kernel, by decide +kernel, by decide +kernel⟩ ⟨rfl, by decide, by decide, by decide +kernel⟩ ⟨rfl, rfl⟩ ⟨by decide, by decide⟩, ?_⟩
  exact fun q h => absurd h List.not_mem_nil
def sd_c1 (s : Nat) (σ : sw_S) : sw_S := sw_up σ 6 s 8 (σ 6 s 8 - 1)
def sd_ct (ln : sw_A) (s : Nat) (σ : sw_S) : sw_S := if 0 < sd_c1 s σ 6 s 8 then sd_c1 s σ else sd_bt s (sd_sa ln s (sd_c1 s σ 6 s 7)) (sd_c1 s σ)
def gX6_countTurn (ln : sw_A) (s : Nat) (σ : sw_S) : sw_X := (lo ln ∧ vp_in (σ 6 s 7) (ln 14 s), none, sd_ct ln s σ)
def fX6_countTurn (ln : sw_A) : sw_F := sw_fo 6 (gX6_countTurn ln)
def ctX6_countTurn (ln : sw_A) : sw_C := [(163, 2, 7, fX6_streamAfter ln), (176, 2, 7, fX6_beginTurn ln)]
abbrev wX6_countTurn (ln : sw_A) (Q : Option sw_V → sw_S → Prop) : Nat → Nat → sw_L → List sw_V → sw_S → Prop := sw_wp sw_rf ln (ctX6_countTurn ln) sX6_countTurn 0 29 tX6_countTurn Q
theorem hX6_countTurn (ln : sw_A) (s : Nat) (σ : sw_S) (h : (gX6_countTurn ln s σ).1) : ∃ fuel, wX6_countTurn ln (sw_end (gX6_countTurn ln s σ)) fuel 0 (sw_ent 1 [.inr (some (6, s))]) [] σ := by
  have ht : vp_in (sd_c1 s σ 6 s 7) (ln 14 s) := by
    unfold sd_c1
    rw [sw_upj _ (by decide)]
    exact h.2
  refine ⟨30, And.intro (fun (h1 : 0 < sd_c1 s σ 6 s 8) => ⟨rfl, (if_pos h1).symm⟩) (fun (h1 : ¬ 0 < sd_c1 s σ 6 s 8) => And.intro trivial (And.intro ⟨h.1, sd_sa_in h.1 ht⟩ ⟨rfl, (if_neg h1).symm⟩))⟩
set_option maxRecDepth 100000 in
theorem mX6_countTurn {l : Launch} {ad : sw_A} {V : Nat → Nat → Prop} {ln : sw_A} {ca : Nat → ClassId} {D : va_G} (hG : sw_wf ad V sw_rf ln) : sw_met l ad V sw_rf ln ca D yX6_countTurn cX6_countTurn 1 none { frames := 2, cells := 0, slots := 0, locals := 43 } 1 (fX6_countTurn ln) := by
  refine sw_meth hG (by decide) (by refine ⟨?_, ?_, ?_, ?_⟩ <;> intro h <;> first | rfl | exact ⟨_, rfl⟩ | exact absurd h (by decide)) (by decide) kX6_countTurn flX6_in cnX6_in ?_ (sw_fo_h (W := fun Q L σ => ∃ fuel, wX6_countTurn ln Q fuel 0 L [] σ) (fun a0 σ h => hX6_countTurn ln a0 σ h))
  intro p e s m args below meth c S hT hnw
  refine List.forall_mem_cons.mpr ⟨sw_cokV S hT hnw (mX6_streamAfter hG) 163 6 (by decide) ⟨by decide +kernel, by decide +kernel, by decide +kernel, by decide +kernel, by decide +kernel⟩ ⟨rfl, by decide, by decide, by decide +kernel⟩ ⟨rfl, rfl⟩ ⟨by decide, by decide⟩, ?_⟩
  refine List.forall_mem_cons.mpr ⟨sw_cokV S hT hnw (mX6_beginTurn hG) 176 6 (by decide) ⟨by decide +kernel, by decide +kernel, by decide +kernel, by decide +kernel, by decide +kernel⟩ ⟨rfl, by decide, by decide, by decide +kernel⟩ ⟨rfl, rfl⟩ ⟨by decide, by decide⟩, ?_⟩
  exact fun q h => absurd h List.not_mem_nil
def gX6_refuse (ln : sw_A) (s : Nat) (σ : sw_S) : sw_X := (True, some (.inl 2), sw_up σ 6 s 13 (σ 6 s 13 + 1))
def fX6_refuse (ln : sw_A) : sw_F := sw_fo 6 (gX6_refuse ln)
def ctX6_refuse (ln : sw_A) : sw_C := []
abbrev wX6_refuse (ln : sw_A) (Q : Option sw_V → sw_S → Prop) : Nat → Nat → sw_L → List sw_V → sw_S → Prop := sw_wp sw_rf ln (ctX6_refuse ln) sX6_refuse 1 11 tX6_refuse Q
theorem hX6_refuse (ln : sw_A) (s : Nat) (σ : sw_S) (h : (gX6_refuse ln s σ).1) : ∃ fuel, wX6_refuse ln (sw_end (gX6_refuse ln s σ)) fuel 0 (sw_ent 1 [.inr (some (6, s))]) [] σ :=
  ⟨20, ⟨rfl, rfl⟩⟩
set_option maxRecDepth 100000 in
theorem mX6_refuse {l : Launch} {ad : sw_A} {V : Nat → Nat → Prop} {ln : sw_A} {ca : Nat → ClassId} {D : va_G} (hG : sw_wf ad V sw_rf ln) : sw_met l ad V sw_rf ln ca D yX6_refuse cX6_refuse 1 (some .int) { frames := 0, cells := 0, slots := 0, locals := 0 } 1 (fX6_refuse ln) := by
  refine sw_meth hG (by decide) (by refine ⟨?_, ?_, ?_, ?_⟩ <;> intro h <;> first | rfl | exact ⟨_, rfl⟩ | exact absurd h (by decide)) (by decide) kX6_refuse flX6_in cnX6_in ?_ (sw_fo_h (W := fun Q L σ => ∃ fuel, wX6_refuse ln Q fuel 0 L [] σ) (fun a0 σ h => hX6_refuse ln a0 σ h))
  intro p e s m args below meth c S hT hnw
  exact fun q h => absurd h List.not_mem_nil
def sd_hd (s : Nat) (kd st ct : Int32) (σ : sw_S) : Int32 := kd ||| st <<< (3 &&& 31) ||| li_nb 0 (σ 6 s 5) (σ 3 (2 * s) 2) σ <<< (8 &&& 31) ||| σ 6 s 6 <<< (16 &&& 31) ||| ct <<< (24 &&& 31)
def gX6_beginNumbered (ln : sw_A) (s : Nat) (kd st ct : Int32) (σ : sw_S) : sw_X := (lo ln ∧ fg ln σ, none, (gX2_begin ln (128 + s) (sd_hd s kd st ct σ) σ).2.2)
def fX6_beginNumbered (ln : sw_A) : sw_F := sw_foiii 6 (gX6_beginNumbered ln)
def ctX6_beginNumbered (ln : sw_A) : sw_C := [(120, 1, 4, fX3_size ln), (214, 3, 5, fX4_numberBehind ln), (220, 2, 3, fX2_begin ln)]
abbrev wX6_beginNumbered (ln : sw_A) (Q : Option sw_V → sw_S → Prop) : Nat → Nat → sw_L → List sw_V → sw_S → Prop := sw_wp sw_rf ln (ctX6_beginNumbered ln) sX6_beginNumbered 0 51 tX6_beginNumbered Q
theorem hX6_beginNumbered (ln : sw_A) (s : Nat) (kd st ct : Int32) (σ : sw_S) (h : (gX6_beginNumbered ln s kd st ct σ).1) : ∃ fuel, wX6_beginNumbered ln (sw_end (gX6_beginNumbered ln s kd st ct σ)) fuel 0 (sw_ent 5 [.inr (some (6, s)), .inl kd, .inl st, .inl ct]) [] σ :=
  ⟨40, And.intro trivial (And.intro trivial (And.intro (begin_go h.1 h.2 _ _).1 ⟨rfl, rfl⟩))⟩
set_option maxRecDepth 100000 in
theorem mX6_beginNumbered {l : Launch} {ad : sw_A} {V : Nat → Nat → Prop} {ln : sw_A} {ca : Nat → ClassId} {D : va_G} (hG : sw_wf ad V sw_rf ln) : sw_met l ad V sw_rf ln ca D yX6_beginNumbered cX6_beginNumbered 5 none { frames := 2, cells := 0, slots := 0, locals := 42 } 4 (fX6_beginNumbered ln) := by
  refine sw_meth hG (by decide) (by refine ⟨?_, ?_, ?_, ?_⟩ <;> intro h <;> first | rfl | exact ⟨_, rfl⟩ | exact absurd h (by decide)) (by decide) kX6_beginNumbered flX6_in cnX6_in ?_ (sw_foiii_h (W := fun Q L σ => ∃ fuel, wX6_beginNumbered ln Q fuel 0 L [] σ) (fun a0 a1 a2 a3 σ h => hX6_beginNumbered ln a0 a1 a2 a3 σ h))
  intro p e s m args below meth c S hT hnw
  refine List.forall_mem_cons.mpr ⟨sw_cokV S hT hnw (mX3_size hG) 120 3 (by decide) ⟨by decide +kernel, by decide +kernel, by decide +kernel, by decide +kernel, by decide +kernel⟩ ⟨rfl, by decide, by decide, by decide +kernel⟩ ⟨rfl, rfl⟩ ⟨by decide, by decide⟩, ?_⟩
  refine List.forall_mem_cons.mpr ⟨sw_cokV S hT hnw (mX4_numberBehind hG) 214 4 (by decide) ⟨by decide +kernel, by decide +kernel, by decide +kernel, by decide +kernel, by decide +kernel⟩ ⟨rfl, by decide, by decide, by decide +kernel⟩ ⟨rfl, rfl⟩ ⟨by decide, by decide⟩, ?_⟩
  refine List.forall_mem_cons.mpr ⟨sw_cokV S hT hnw (mX2_begin hG) 220 2 (by decide) ⟨by decide +kernel, by decide +kernel, by decide +kernel, by decide +kernel, by decide +kernel⟩ ⟨rfl, by decide, by decide, by decide +kernel⟩ ⟨rfl, rfl⟩ ⟨by decide, by decide⟩, ?_⟩
  exact fun q h => absurd h List.not_mem_nil
def sd_d0 (ln : sw_A) (s : Nat) (σ : sw_S) : sw_S := sw_up (gX3_add ln (2 * s + 1) (128 + s) σ).2.2 6 s 9 0
def sd_sd (ln : sw_A) (s : Nat) (σ : sw_S) : sw_S := sw_up (sd_d0 ln s σ) 6 s 11 (sd_d0 ln s σ 6 s 11 + 1)
def gX6_sendDraft (ln : sw_A) (s : Nat) (σ : sw_S) : sw_X := (lo ln ∧ fg ln σ, none, sd_sd ln s σ)
def fX6_sendDraft (ln : sw_A) : sw_F := sw_fo 6 (gX6_sendDraft ln)
def ctX6_sendDraft (ln : sw_A) : sw_C := [(226, 2, 4, fX3_add ln)]
abbrev wX6_sendDraft (ln : sw_A) (Q : Option sw_V → sw_S → Prop) : Nat → Nat → sw_L → List sw_V → sw_S → Prop := sw_wp sw_rf ln (ctX6_sendDraft ln) sX6_sendDraft 0 26 tX6_sendDraft Q
theorem hX6_sendDraft (ln : sw_A) (s : Nat) (σ : sw_S) (h : (gX6_sendDraft ln s σ).1) : ∃ fuel, wX6_sendDraft ln (sw_end (gX6_sendDraft ln s σ)) fuel 0 (sw_ent 1 [.inr (some (6, s))]) [] σ :=
  ⟨30, And.intro (add_go h.1 h.2 _ _).1 (And.intro (Or.inl rfl) ⟨rfl, rfl⟩)⟩
set_option maxRecDepth 100000 in
theorem mX6_sendDraft {l : Launch} {ad : sw_A} {V : Nat → Nat → Prop} {ln : sw_A} {ca : Nat → ClassId} {D : va_G} (hG : sw_wf ad V sw_rf ln) : sw_met l ad V sw_rf ln ca D yX6_sendDraft cX6_sendDraft 1 none { frames := 3, cells := 0, slots := 0, locals := 65 } 1 (fX6_sendDraft ln) := by
  refine sw_meth hG (by decide) (by refine ⟨?_, ?_, ?_, ?_⟩ <;> intro h <;> first | rfl | exact ⟨_, rfl⟩ | exact absurd h (by decide)) (by decide) kX6_sendDraft flX6_in cnX6_in ?_ (sw_fo_h (W := fun Q L σ => ∃ fuel, wX6_sendDraft ln Q fuel 0 L [] σ) (fun a0 σ h => hX6_sendDraft ln a0 σ h))
  intro p e s m args below meth c S hT hnw
  refine List.forall_mem_cons.mpr ⟨sw_cokV S hT hnw (mX3_add hG) 226 3 (by decide) ⟨by decide +kernel, by decide +kernel, by decide +kernel, by decide +kernel, by decide +kernel⟩ ⟨rfl, by decide, by decide, by decide +kernel⟩ ⟨rfl, rfl⟩ ⟨by decide, by decide⟩, ?_⟩
  exact fun q h => absurd h List.not_mem_nil
theorem sd_sd_go {ln : sw_A} {σ : sw_S} (hl : lo ln) (h : fg ln σ) (s : Nat) : fg ln (sd_sd ln s σ) := fg_upk (fg_upk (add_go hl h _ _).2 (by decide)) (by decide)
def sd_sn (ln : sw_A) (s : Nat) (σ : sw_S) : sw_S := sd_sd ln s (gX3_add ln (2 * s) (128 + s) (gX2_seal ln (128 + s) σ).2.2).2.2
def gX6_sendNumbered (ln : sw_A) (s : Nat) (σ : sw_S) : sw_X := (lo ln ∧ fg ln σ, none, sd_sn ln s σ)
def fX6_sendNumbered (ln : sw_A) : sw_F := sw_fo 6 (gX6_sendNumbered ln)
def ctX6_sendNumbered (ln : sw_A) : sw_C := [(223, 1, 3, fX2_seal ln), (226, 2, 4, fX3_add ln), (230, 1, 7, fX6_sendDraft ln)]
abbrev wX6_sendNumbered (ln : sw_A) (Q : Option sw_V → sw_S → Prop) : Nat → Nat → sw_L → List sw_V → sw_S → Prop := sw_wp sw_rf ln (ctX6_sendNumbered ln) sX6_sendNumbered 0 22 tX6_sendNumbered Q
theorem hX6_sendNumbered (ln : sw_A) (s : Nat) (σ : sw_S) (h : (gX6_sendNumbered ln s σ).1) : ∃ fuel, wX6_sendNumbered ln (sw_end (gX6_sendNumbered ln s σ)) fuel 0 (sw_ent 1 [.inr (some (6, s))]) [] σ := by
  have h1 := seal_go h.1 h.2 (128 + s)
  have h2 := add_go h.1 h1.2 (2 * s) (128 + s)
  exact ⟨30, And.intro h1.1 (And.intro h2.1 (And.intro ⟨h.1, h2.2⟩ ⟨rfl, rfl⟩))⟩
set_option maxRecDepth 100000 in
theorem mX6_sendNumbered {l : Launch} {ad : sw_A} {V : Nat → Nat → Prop} {ln : sw_A} {ca : Nat → ClassId} {D : va_G} (hG : sw_wf ad V sw_rf ln) : sw_met l ad V sw_rf ln ca D yX6_sendNumbered cX6_sendNumbered 1 none { frames := 4, cells := 0, slots := 0, locals := 85 } 1 (fX6_sendNumbered ln) := by
  refine sw_meth hG (by decide) (by refine ⟨?_, ?_, ?_, ?_⟩ <;> intro h <;> first | rfl | exact ⟨_, rfl⟩ | exact absurd h (by decide)) (by decide) kX6_sendNumbered flX6_in cnX6_in ?_ (sw_fo_h (W := fun Q L σ => ∃ fuel, wX6_sendNumbered ln Q fuel 0 L [] σ) (fun a0 σ h => hX6_sendNumbered ln a0 σ h))
  intro p e s m args below meth c S hT hnw
  refine List.forall_mem_cons.mpr ⟨sw_cokV S hT hnw (mX2_seal hG) 223 2 (by decide) ⟨by decide +kernel, by decide +kernel, by decide +kernel, by decide +kernel, by decide +kernel⟩ ⟨rfl, by decide, by decide, by decide +kernel⟩ ⟨rfl, rfl⟩ ⟨by decide, by decide⟩, ?_⟩
  refine List.forall_mem_cons.mpr ⟨sw_cokV S hT hnw (mX3_add hG) 226 3 (by decide) ⟨by decide +kernel, by decide +kernel, by decide +kernel, by decide +kernel, by decide +kernel⟩ ⟨rfl, by decide, by decide, by decide +kernel⟩ ⟨rfl, rfl⟩ ⟨by decide, by decide⟩, ?_⟩
  refine List.forall_mem_cons.mpr ⟨sw_cokV S hT hnw (mX6_sendDraft hG) 230 6 (by decide) ⟨by decide +kernel, by decide +kernel, by decide +kernel, by decide +kernel, by decide +kernel⟩ ⟨rfl, by decide, by decide, by decide +kernel⟩ ⟨rfl, rfl⟩ ⟨by decide, by decide⟩, ?_⟩
  exact fun q h => absurd h List.not_mem_nil
theorem sd_sn_go {ln : sw_A} {σ : sw_S} (hl : lo ln) (h : fg ln σ) (s : Nat) : fg ln (sd_sn ln s σ) := sd_sd_go hl (add_go hl (seal_go hl h _).2 _ _).2 s
def sd_ak (ln : sw_A) (s : Nat) (σ : sw_S) : sw_S := sd_sd ln s (gX2_seal ln (128 + s) (gX2_begin ln (128 + s) ((0 : Int32) ||| σ 6 s 6 <<< (16 &&& 31)) σ).2.2).2.2
def gX6_sendAck (ln : sw_A) (s : Nat) (σ : sw_S) : sw_X := (lo ln ∧ fg ln σ, none, sd_ak ln s σ)
def fX6_sendAck (ln : sw_A) : sw_F := sw_fo 6 (gX6_sendAck ln)
def ctX6_sendAck (ln : sw_A) : sw_C := [(220, 2, 3, fX2_begin ln), (223, 1, 3, fX2_seal ln), (230, 1, 7, fX6_sendDraft ln)]
abbrev wX6_sendAck (ln : sw_A) (Q : Option sw_V → sw_S → Prop) : Nat → Nat → sw_L → List sw_V → sw_S → Prop := sw_wp sw_rf ln (ctX6_sendAck ln) sX6_sendAck 0 27 tX6_sendAck Q
theorem hX6_sendAck (ln : sw_A) (s : Nat) (σ : sw_S) (h : (gX6_sendAck ln s σ).1) : ∃ fuel, wX6_sendAck ln (sw_end (gX6_sendAck ln s σ)) fuel 0 (sw_ent 1 [.inr (some (6, s))]) [] σ := by
  have h1 := begin_go h.1 h.2 (128 + s) ((0 : Int32) ||| σ 6 s 6 <<< (16 &&& 31))
  have h2 := seal_go h.1 h1.2 (128 + s)
  exact ⟨30, And.intro h1.1 (And.intro h2.1 (And.intro ⟨h.1, h2.2⟩ ⟨rfl, rfl⟩))⟩
set_option maxRecDepth 100000 in
theorem mX6_sendAck {l : Launch} {ad : sw_A} {V : Nat → Nat → Prop} {ln : sw_A} {ca : Nat → ClassId} {D : va_G} (hG : sw_wf ad V sw_rf ln) : sw_met l ad V sw_rf ln ca D yX6_sendAck cX6_sendAck 1 none { frames := 4, cells := 0, slots := 0, locals := 85 } 1 (fX6_sendAck ln) := by
  refine sw_meth hG (by decide) (by refine ⟨?_, ?_, ?_, ?_⟩ <;> intro h <;> first | rfl | exact ⟨_, rfl⟩ | exact absurd h (by decide)) (by decide) kX6_sendAck flX6_in cnX6_in ?_ (sw_fo_h (W := fun Q L σ => ∃ fuel, wX6_sendAck ln Q fuel 0 L [] σ) (fun a0 σ h => hX6_sendAck ln a0 σ h))
  intro p e s m args below meth c S hT hnw
  refine List.forall_mem_cons.mpr ⟨sw_cokV S hT hnw (mX2_begin hG) 220 2 (by decide) ⟨by decide +kernel, by decide +kernel, by decide +kernel, by decide +kernel, by decide +kernel⟩ ⟨rfl, by decide, by decide, by decide +kernel⟩ ⟨rfl, rfl⟩ ⟨by decide, by decide⟩, ?_⟩
  refine List.forall_mem_cons.mpr ⟨sw_cokV S hT hnw (mX2_seal hG) 223 2 (by decide) ⟨by decide +kernel, by decide +kernel, by decide +kernel, by decide +kernel, by decide +kernel⟩ ⟨rfl, by decide, by decide, by decide +kernel⟩ ⟨rfl, rfl⟩ ⟨by decide, by decide⟩, ?_⟩
  refine List.forall_mem_cons.mpr ⟨sw_cokV S hT hnw (mX6_sendDraft hG) 230 6 (by decide) ⟨by decide +kernel, by decide +kernel, by decide +kernel, by decide +kernel, by decide +kernel⟩ ⟨rfl, by decide, by decide, by decide +kernel⟩ ⟨rfl, rfl⟩ ⟨by decide, by decide⟩, ?_⟩
  exact fun q h => absurd h List.not_mem_nil
