/-! StreamWires: its methods -/
def wi_sa (i : Int32) : Option (Nat × Nat) := if i = 0 then some (6, 0) else if i = 1 then some (6, 1) else none
theorem wi_sa_6 {i : Int32} {q : Nat × Nat} (h : wi_sa i = some q) : q.1 = 6 := by
  unfold wi_sa at h
  split at h
  · cases h; rfl
  · split at h
    · cases h; rfl
    · cases h
def gX7_sideAt (ln : sw_A) (x : Nat) (i : Int32) (σ : sw_S) : sw_X := (True, some (.inr (wi_sa i)), σ)
def fX7_sideAt (ln : sw_A) : sw_F := sw_foi 7 (gX7_sideAt ln)
def ctX7_sideAt (ln : sw_A) : sw_C := []
abbrev wX7_sideAt (ln : sw_A) (Q : Option sw_V → sw_S → Prop) : Nat → Nat → sw_L → List sw_V → sw_S → Prop := sw_wp sw_rf ln (ctX7_sideAt ln) sX7_sideAt 3 22 tX7_sideAt Q
theorem hX7_sideAt (ln : sw_A) (x : Nat) (i : Int32) (σ : sw_S) (h : (gX7_sideAt ln x i σ).1) : ∃ fuel, wX7_sideAt ln (sw_end (gX7_sideAt ln x i σ)) fuel 0 (sw_ent 2 [.inr (some (7, x)), .inl i]) [] σ :=
  ⟨20, And.intro (fun (h1 : ¬ i = 0) => And.intro (fun (h2 : ¬ i = 1) => ⟨sw_rr ((if_neg h1).trans (if_neg h2)).symm, rfl⟩) (fun (h2 : i = 1) => ⟨sw_rr ((if_neg h1).trans (if_pos h2)).symm, rfl⟩)) (fun (h1 : i = 0) => ⟨sw_rr (if_pos h1).symm, rfl⟩)⟩
set_option maxRecDepth 100000 in
theorem mX7_sideAt {l : Launch} {ad : sw_A} {V : Nat → Nat → Prop} {ln : sw_A} {ca : Nat → ClassId} {D : va_G} (hG : sw_wf ad V sw_rf ln) : sw_met l ad V sw_rf ln ca D yX7_sideAt cX7_sideAt 2 (some (.object "StreamWires$Side")) { frames := 0, cells := 0, slots := 0, locals := 0 } 2 (fX7_sideAt ln) := by
  refine sw_meth hG (by decide) (by refine ⟨?_, ?_, ?_, ?_⟩ <;> intro h <;> first | rfl | exact ⟨_, rfl⟩ | exact absurd h (by decide)) (by decide) kX7_sideAt flX7_in cnX7_in ?_ (sw_foi_h (W := fun Q L σ => ∃ fuel, wX7_sideAt ln Q fuel 0 L [] σ) (fun a0 a1 σ h => hX7_sideAt ln a0 a1 σ h))
  intro p e s m args below meth c S hT hnw
  exact fun q h => absurd h List.not_mem_nil
def wi_fl (ln : sw_A) (i t : Int32) : Option (Nat × Nat) := sd_om none (fun q => sd_fa ln q.2 t) (wi_sa i)
def gX7_flowAt (ln : sw_A) (x : Nat) (i t : Int32) (σ : sw_S) : sw_X := (lo ln, some (.inr (wi_fl ln i t)), σ)
def fX7_flowAt (ln : sw_A) : sw_F := sw_foii 7 (gX7_flowAt ln)
def ctX7_flowAt (ln : sw_A) : sw_C := [(43, 2, 8, fX7_sideAt ln), (99, 2, 7, fX6_flowAt ln)]
abbrev wX7_flowAt (ln : sw_A) (Q : Option sw_V → sw_S → Prop) : Nat → Nat → sw_L → List sw_V → sw_S → Prop := sw_wp sw_rf ln (ctX7_flowAt ln) sX7_flowAt 3 19 tX7_flowAt Q
theorem hX7_flowAt (ln : sw_A) (x : Nat) (i t : Int32) (σ : sw_S) (h : (gX7_flowAt ln x i t σ).1) : ∃ fuel, wX7_flowAt ln (sw_end (gX7_flowAt ln x i t σ)) fuel 0 (sw_ent 4 [.inr (some (7, x)), .inl i, .inl t]) [] σ := by
  have key : ∃ M, ∀ r, r = wi_sa i → wX7_flowAt ln (sw_end (gX7_flowAt ln x i t σ)) M 5 [some (.inr (some (7, x))), some (.inl i), some (.inl t), none] [.inr r] σ := by
    refine ⟨20, fun r hr => ?_⟩
    cases r with
    | none => exact ⟨sw_rr (by unfold wi_fl; rw [← hr]; rfl), rfl⟩
    | some q =>
      obtain ⟨q1, q2⟩ := q
      have e1 : q1 = 6 := wi_sa_6 hr.symm
      subst e1
      exact And.intro (h.1 14 q2) ⟨sw_rr (by unfold wi_fl; rw [← hr]; rfl), rfl⟩
  obtain ⟨M, key⟩ := key
  exact ⟨M + 10, sw_ws_wp [5] M 10 _ _ _ _ (And.intro trivial (key _ rfl))⟩
set_option maxRecDepth 100000 in
theorem mX7_flowAt {l : Launch} {ad : sw_A} {V : Nat → Nat → Prop} {ln : sw_A} {ca : Nat → ClassId} {D : va_G} (hG : sw_wf ad V sw_rf ln) : sw_met l ad V sw_rf ln ca D yX7_flowAt cX7_flowAt 4 (some (.object "StreamWires$Flow")) { frames := 1, cells := 0, slots := 0, locals := 21 } 3 (fX7_flowAt ln) := by
  refine sw_meth hG (by decide) (by refine ⟨?_, ?_, ?_, ?_⟩ <;> intro h <;> first | rfl | exact ⟨_, rfl⟩ | exact absurd h (by decide)) (by decide) kX7_flowAt flX7_in cnX7_in ?_ (sw_foii_h (W := fun Q L σ => ∃ fuel, wX7_flowAt ln Q fuel 0 L [] σ) (fun a0 a1 a2 σ h => hX7_flowAt ln a0 a1 a2 σ h))
  intro p e s m args below meth c S hT hnw
  refine List.forall_mem_cons.mpr ⟨sw_cokV S hT hnw (mX7_sideAt hG) 43 7 (by decide) ⟨by decide +kernel, by decide +kernel, by decide +kernel, by decide +kernel, by decide +kernel⟩ ⟨rfl, by decide, by decide, by decide +kernel⟩ ⟨rfl, rfl⟩ ⟨by decide, by decide⟩, ?_⟩
  refine List.forall_mem_cons.mpr ⟨sw_cokV S hT hnw (mX6_flowAt hG) 99 6 (by decide) ⟨by decide +kernel, by decide +kernel, by decide +kernel, by decide +kernel, by decide +kernel⟩ ⟨rfl, by decide, by decide, by decide +kernel⟩ ⟨rfl, rfl⟩ ⟨by decide, by decide⟩, ?_⟩
  exact fun q h => absurd h List.not_mem_nil
theorem wi_fl_1 {ln : sw_A} {i t : Int32} {q : Nat × Nat} (h : wi_fl ln i t = some q) : q.1 = 1 := by
  unfold wi_fl at h
  cases h2 : wi_sa i with
  | none => rw [h2] at h; cases h
  | some p => rw [h2] at h; exact sd_fa_1 h
def wi_fr (ln : sw_A) (i j : Int32) (σ : sw_S) : Option (Nat × Nat) := sd_om none (fun q => rg_fa ln (2 * q.2 + 1) j σ) (wi_sa i)
def gX7_frameAt (ln : sw_A) (x : Nat) (i j : Int32) (σ : sw_S) : sw_X := (lo ln, some (.inr (wi_fr ln i j σ)), σ)
def fX7_frameAt (ln : sw_A) : sw_F := sw_foii 7 (gX7_frameAt ln)
def ctX7_frameAt (ln : sw_A) : sw_C := [(43, 2, 8, fX7_sideAt ln), (66, 2, 4, fX3_frameAt ln)]
abbrev wX7_frameAt (ln : sw_A) (Q : Option sw_V → sw_S → Prop) : Nat → Nat → sw_L → List sw_V → sw_S → Prop := sw_wp sw_rf ln (ctX7_frameAt ln) sX7_frameAt 3 22 tX7_frameAt Q
theorem hX7_frameAt (ln : sw_A) (x : Nat) (i j : Int32) (σ : sw_S) (h : (gX7_frameAt ln x i j σ).1) : ∃ fuel, wX7_frameAt ln (sw_end (gX7_frameAt ln x i j σ)) fuel 0 (sw_ent 4 [.inr (some (7, x)), .inl i, .inl j]) [] σ := by
  have key : ∃ M, ∀ r, r = wi_sa i → wX7_frameAt ln (sw_end (gX7_frameAt ln x i j σ)) M 5 [some (.inr (some (7, x))), some (.inl i), some (.inl j), none] [.inr r] σ := by
    refine ⟨20, fun r hr => ?_⟩
    cases r with
    | none => exact ⟨sw_rr (by unfold wi_fr; rw [← hr]; rfl), rfl⟩
    | some q =>
      obtain ⟨q1, q2⟩ := q
      have e1 : q1 = 6 := wi_sa_6 hr.symm
      subst e1
      exact And.intro (h.1 13 (2 * q2 + 1)) ⟨sw_rr (by unfold wi_fr; rw [← hr]; rfl), rfl⟩
  obtain ⟨M, key⟩ := key
  exact ⟨M + 10, sw_ws_wp [5] M 10 _ _ _ _ (And.intro trivial (key _ rfl))⟩
set_option maxRecDepth 100000 in
theorem mX7_frameAt {l : Launch} {ad : sw_A} {V : Nat → Nat → Prop} {ln : sw_A} {ca : Nat → ClassId} {D : va_G} (hG : sw_wf ad V sw_rf ln) : sw_met l ad V sw_rf ln ca D yX7_frameAt cX7_frameAt 4 (some (.object "StreamWires$Frame")) { frames := 2, cells := 0, slots := 0, locals := 43 } 3 (fX7_frameAt ln) := by
  refine sw_meth hG (by decide) (by refine ⟨?_, ?_, ?_, ?_⟩ <;> intro h <;> first | rfl | exact ⟨_, rfl⟩ | exact absurd h (by decide)) (by decide) kX7_frameAt flX7_in cnX7_in ?_ (sw_foii_h (W := fun Q L σ => ∃ fuel, wX7_frameAt ln Q fuel 0 L [] σ) (fun a0 a1 a2 σ h => hX7_frameAt ln a0 a1 a2 σ h))
  intro p e s m args below meth c S hT hnw
  refine List.forall_mem_cons.mpr ⟨sw_cokV S hT hnw (mX7_sideAt hG) 43 7 (by decide) ⟨by decide +kernel, by decide +kernel, by decide +kernel, by decide +kernel, by decide +kernel⟩ ⟨rfl, by decide, by decide, by decide +kernel⟩ ⟨rfl, rfl⟩ ⟨by decide, by decide⟩, ?_⟩
  refine List.forall_mem_cons.mpr ⟨sw_cokV S hT hnw (mX3_frameAt hG) 66 3 (by decide) ⟨by decide +kernel, by decide +kernel, by decide +kernel, by decide +kernel, by decide +kernel⟩ ⟨rfl, by decide, by decide, by decide +kernel⟩ ⟨rfl, rfl⟩ ⟨by decide, by decide⟩, ?_⟩
  exact fun q h => absurd h List.not_mem_nil
theorem wi_fr_2 {ln : sw_A} {i j : Int32} {σ : sw_S} {q : Nat × Nat} (h : wi_fr ln i j σ = some q) : q.1 = 2 := by
  unfold wi_fr at h
  cases h2 : wi_sa i with
  | none => rw [h2] at h; cases h
  | some p => rw [h2] at h; exact rg_fa_2 h
abbrev wi_P : Type := Int32 × sw_S
def rz (σ : sw_S) : Prop := ∀ r, 0 ≤ σ 3 r 2
theorem sw_pe {x : Int32} {s : sw_S} {p : wi_P} (h : p = (x, s)) : some (Sum.inl x : sw_V) = some (Sum.inl p.1) ∧ s = p.2 := by
  rw [h]
  exact ⟨rfl, rfl⟩

def wi_open (ln : sw_A) (i t : Int32) (σ : sw_S) : wi_P := sd_om (-1, σ) (fun q => (if σ 1 q.2 3 = 0 then 1 else 0, (gX1_begin ln q.2 σ).2.2)) (wi_fl ln i t)
def gX7_open (ln : sw_A) (x : Nat) (i t : Int32) (σ : sw_S) : sw_X := (lo ln, some (.inl (wi_open ln i t σ).1), (wi_open ln i t σ).2)
def fX7_open (ln : sw_A) : sw_F := sw_foii 7 (gX7_open ln)
def ctX7_open (ln : sw_A) : sw_C := [(26, 3, 8, fX7_flowAt ln), (30, 1, 2, fX1_begin ln)]
abbrev wX7_open (ln : sw_A) (Q : Option sw_V → sw_S → Prop) : Nat → Nat → sw_L → List sw_V → sw_S → Prop := sw_wp sw_rf ln (ctX7_open ln) sX7_open 1 25 tX7_open Q
theorem hX7_open (ln : sw_A) (x : Nat) (i t : Int32) (σ : sw_S) (h : (gX7_open ln x i t σ).1) : ∃ fuel, wX7_open ln (sw_end (gX7_open ln x i t σ)) fuel 0 (sw_ent 4 [.inr (some (7, x)), .inl i, .inl t]) [] σ := by
  have key : ∃ M, ∀ r, r = wi_fl ln i t → wX7_open ln (sw_end (gX7_open ln x i t σ)) M 6 [some (.inr (some (7, x))), some (.inl i), some (.inl t), none] [.inr r] σ := by
    refine ⟨20, fun r hr => ?_⟩
    cases r with
    | none => exact sw_pe (by unfold wi_open; rw [← hr]; rfl)
    | some q =>
      obtain ⟨q1, q2⟩ := q
      have e1 : q1 = 1 := wi_fl_1 hr.symm
      subst e1
      have hp : wi_open ln i t σ = (if σ 1 q2 3 = 0 then 1 else 0, (gX1_begin ln q2 σ).2.2) := by unfold wi_open; rw [← hr]; rfl
      refine And.intro trivial (And.intro (fun (a1 : (if σ 1 q2 3 = 0 then (1 : Int32) else 0) = 0) => sw_pe (by rw [hp, a1]; rfl)) (fun (a1 : ¬ (if σ 1 q2 3 = 0 then (1 : Int32) else 0) = 0) => sw_pe ?_))
      rw [hp]
      by_cases h0 : σ 1 q2 3 = 0
      · rw [if_pos h0]; rfl
      · rw [if_neg h0] at a1
        exact absurd rfl a1
  obtain ⟨M, key⟩ := key
  exact ⟨M + 10, sw_ws_wp [6] M 10 _ _ _ _ (And.intro h (key _ rfl))⟩
set_option maxRecDepth 100000 in
theorem mX7_open {l : Launch} {ad : sw_A} {V : Nat → Nat → Prop} {ln : sw_A} {ca : Nat → ClassId} {D : va_G} (hG : sw_wf ad V sw_rf ln) : sw_met l ad V sw_rf ln ca D yX7_open cX7_open 4 (some .int) { frames := 2, cells := 0, slots := 0, locals := 44 } 3 (fX7_open ln) := by
  refine sw_meth hG (by decide) (by refine ⟨?_, ?_, ?_, ?_⟩ <;> intro h <;> first | rfl | exact ⟨_, rfl⟩ | exact absurd h (by decide)) (by decide) kX7_open flX7_in cnX7_in ?_ (sw_foii_h (W := fun Q L σ => ∃ fuel, wX7_open ln Q fuel 0 L [] σ) (fun a0 a1 a2 σ h => hX7_open ln a0 a1 a2 σ h))
  intro p e s m args below meth c S hT hnw
  refine List.forall_mem_cons.mpr ⟨sw_cokV S hT hnw (mX7_flowAt hG) 26 7 (by decide) ⟨by decide +kernel, by decide +kernel, by decide +kernel, by decide +kernel, by decide +kernel⟩ ⟨rfl, by decide, by decide, by decide +kernel⟩ ⟨rfl, rfl⟩ ⟨by decide, by decide⟩, ?_⟩
  refine List.forall_mem_cons.mpr ⟨sw_cokV S hT hnw (mX1_begin hG) 30 1 (by decide) ⟨by decide +kernel, by decide +kernel, by decide +kernel, by decide +kernel, by decide +kernel⟩ ⟨rfl, by decide, by decide, by decide +kernel⟩ ⟨rfl, rfl⟩ ⟨by decide, by decide⟩, ?_⟩
  exact fun q h => absurd h List.not_mem_nil

def wi_close (ln : sw_A) (i t : Int32) (σ : sw_S) : wi_P := sd_om (-1, σ) (fun q => (if σ 1 q.2 3 = 1 then 1 else 0, (gX1_finish ln q.2 σ).2.2)) (wi_fl ln i t)
def gX7_close (ln : sw_A) (x : Nat) (i t : Int32) (σ : sw_S) : sw_X := (lo ln, some (.inl (wi_close ln i t σ).1), (wi_close ln i t σ).2)
def fX7_close (ln : sw_A) : sw_F := sw_foii 7 (gX7_close ln)
def ctX7_close (ln : sw_A) : sw_C := [(26, 3, 8, fX7_flowAt ln), (40, 1, 2, fX1_finish ln)]
abbrev wX7_close (ln : sw_A) (Q : Option sw_V → sw_S → Prop) : Nat → Nat → sw_L → List sw_V → sw_S → Prop := sw_wp sw_rf ln (ctX7_close ln) sX7_close 1 25 tX7_close Q
theorem hX7_close (ln : sw_A) (x : Nat) (i t : Int32) (σ : sw_S) (h : (gX7_close ln x i t σ).1) : ∃ fuel, wX7_close ln (sw_end (gX7_close ln x i t σ)) fuel 0 (sw_ent 4 [.inr (some (7, x)), .inl i, .inl t]) [] σ := by
  have key : ∃ M, ∀ r, r = wi_fl ln i t → wX7_close ln (sw_end (gX7_close ln x i t σ)) M 6 [some (.inr (some (7, x))), some (.inl i), some (.inl t), none] [.inr r] σ := by
    refine ⟨20, fun r hr => ?_⟩
    cases r with
    | none => exact sw_pe (by unfold wi_close; rw [← hr]; rfl)
    | some q =>
      obtain ⟨q1, q2⟩ := q
      have e1 : q1 = 1 := wi_fl_1 hr.symm
      subst e1
      have hp : wi_close ln i t σ = (if σ 1 q2 3 = 1 then 1 else 0, (gX1_finish ln q2 σ).2.2) := by unfold wi_close; rw [← hr]; rfl
      refine And.intro trivial (And.intro (fun (a1 : (if σ 1 q2 3 = 1 then (1 : Int32) else 0) = 0) => sw_pe (by rw [hp, a1]; rfl)) (fun (a1 : ¬ (if σ 1 q2 3 = 1 then (1 : Int32) else 0) = 0) => sw_pe ?_))
      rw [hp]
      by_cases h0 : σ 1 q2 3 = 1
      · rw [if_pos h0]; rfl
      · rw [if_neg h0] at a1
        exact absurd rfl a1
  obtain ⟨M, key⟩ := key
  exact ⟨M + 10, sw_ws_wp [6] M 10 _ _ _ _ (And.intro h (key _ rfl))⟩
set_option maxRecDepth 100000 in
theorem mX7_close {l : Launch} {ad : sw_A} {V : Nat → Nat → Prop} {ln : sw_A} {ca : Nat → ClassId} {D : va_G} (hG : sw_wf ad V sw_rf ln) : sw_met l ad V sw_rf ln ca D yX7_close cX7_close 4 (some .int) { frames := 2, cells := 0, slots := 0, locals := 44 } 3 (fX7_close ln) := by
  refine sw_meth hG (by decide) (by refine ⟨?_, ?_, ?_, ?_⟩ <;> intro h <;> first | rfl | exact ⟨_, rfl⟩ | exact absurd h (by decide)) (by decide) kX7_close flX7_in cnX7_in ?_ (sw_foii_h (W := fun Q L σ => ∃ fuel, wX7_close ln Q fuel 0 L [] σ) (fun a0 a1 a2 σ h => hX7_close ln a0 a1 a2 σ h))
  intro p e s m args below meth c S hT hnw
  refine List.forall_mem_cons.mpr ⟨sw_cokV S hT hnw (mX7_flowAt hG) 26 7 (by decide) ⟨by decide +kernel, by decide +kernel, by decide +kernel, by decide +kernel, by decide +kernel⟩ ⟨rfl, by decide, by decide, by decide +kernel⟩ ⟨rfl, rfl⟩ ⟨by decide, by decide⟩, ?_⟩
  refine List.forall_mem_cons.mpr ⟨sw_cokV S hT hnw (mX1_finish hG) 40 1 (by decide) ⟨by decide +kernel, by decide +kernel, by decide +kernel, by decide +kernel, by decide +kernel⟩ ⟨rfl, by decide, by decide, by decide +kernel⟩ ⟨rfl, rfl⟩ ⟨by decide, by decide⟩, ?_⟩
  exact fun q h => absurd h List.not_mem_nil

def wi_pm (ln : sw_A) (w b : Int32) (σ : sw_S) : Option (Nat × Nat) → Option (Nat × Nat) → wi_P
  | some p, some q => (sd_qi ln p.2 q.2 σ, (gX6_queueItem ln p.2 q.2 w b σ).2.2)
  | _, _ => (-1, σ)
def wi_pi (ln : sw_A) (i t w b : Int32) (σ : sw_S) : wi_P := wi_pm ln w b σ (wi_sa i) (wi_fl ln i t)
def gX7_putItem (ln : sw_A) (x : Nat) (i t w b : Int32) (σ : sw_S) : sw_X := (lo ln ∧ fg ln σ ∧ rz σ ∧ sw_bo b, some (.inl (wi_pi ln i t w b σ).1), (wi_pi ln i t w b σ).2)
def fX7_putItem (ln : sw_A) : sw_F := sw_foiiii 7 (gX7_putItem ln)
def ctX7_putItem (ln : sw_A) : sw_C := [(43, 2, 8, fX7_sideAt ln), (26, 3, 8, fX7_flowAt ln), (102, 4, 7, fX6_queueItem ln)]
abbrev wX7_putItem (ln : sw_A) (Q : Option sw_V → sw_S → Prop) : Nat → Nat → sw_L → List sw_V → sw_S → Prop := sw_wp sw_rf ln (ctX7_putItem ln) sX7_putItem 1 37 tX7_putItem Q
theorem hX7_putItem (ln : sw_A) (x : Nat) (i t w b : Int32) (σ : sw_S) (h : (gX7_putItem ln x i t w b σ).1) : ∃ fuel, wX7_putItem ln (sw_end (gX7_putItem ln x i t w b σ)) fuel 0 (sw_ent 7 [.inr (some (7, x)), .inl i, .inl t, .inl w, .inl b]) [] σ := by
  obtain ⟨hl, hg, hz, hb⟩ := h
  have k13 : ∃ M, ∀ r1 r2, r1 = wi_sa i → r2 = wi_fl ln i t → wX7_putItem ln (sw_end (gX7_putItem ln x i t w b σ)) M 13 [some (.inr (some (7, x))), some (.inl i), some (.inl t), some (.inl w), some (.inl b), some (.inr r1), none] [.inr r2] σ := by
    refine ⟨20, fun r1 r2 h1 h2 => ?_⟩
    have hp : wi_pi ln i t w b σ = wi_pm ln w b σ r1 r2 := by unfold wi_pi; rw [← h1, ← h2]
    cases r1 with
    | none => exact sw_pe (by rw [hp]; rfl)
    | some p =>
      obtain ⟨p1, p2⟩ := p
      have e1 : p1 = 6 := wi_sa_6 h1.symm
      subst e1
      cases r2 with
      | none => exact sw_pe (by rw [hp]; rfl)
      | some q =>
        obtain ⟨q1, q2⟩ := q
        have e2 : q1 = 1 := wi_fl_1 h2.symm
        subst e2
        exact And.intro ⟨⟨hl, hg, hz _⟩, hb⟩ (sw_pe (by rw [hp]; rfl))
  obtain ⟨M, k13⟩ := k13
  exact ⟨M + 20, sw_ws_wp [13] M 20 _ _ _ _ (And.intro trivial (And.intro hl (k13 _ _ rfl rfl)))⟩
set_option maxRecDepth 100000 in
theorem mX7_putItem {l : Launch} {ad : sw_A} {V : Nat → Nat → Prop} {ln : sw_A} {ca : Nat → ClassId} {D : va_G} (hG : sw_wf ad V sw_rf ln) : sw_met l ad V sw_rf ln ca D yX7_putItem cX7_putItem 7 (some .int) { frames := 5, cells := 0, slots := 0, locals := 114 } 5 (fX7_putItem ln) := by
  refine sw_meth hG (by decide) (by refine ⟨?_, ?_, ?_, ?_⟩ <;> intro h <;> first | rfl | exact ⟨_, rfl⟩ | exact absurd h (by decide)) (by decide) kX7_putItem flX7_in cnX7_in ?_ (sw_foiiii_h (W := fun Q L σ => ∃ fuel, wX7_putItem ln Q fuel 0 L [] σ) (fun a0 a1 a2 a3 a4 σ h => hX7_putItem ln a0 a1 a2 a3 a4 σ h))
  intro p e s m args below meth c S hT hnw
  refine List.forall_mem_cons.mpr ⟨sw_cokV S hT hnw (mX7_sideAt hG) 43 7 (by decide) ⟨by decide +kernel, by decide +kernel, by decide +kernel, by decide +kernel, by decide +kernel⟩ ⟨rfl, by decide, by decide, by decide +kernel⟩ ⟨rfl, rfl⟩ ⟨by decide, by decide⟩, ?_⟩
  refine List.forall_mem_cons.mpr ⟨sw_cokV S hT hnw (mX7_flowAt hG) 26 7 (by decide) ⟨by decide +kernel, by decide +kernel, by decide +kernel, by decide +kernel, by decide +kernel⟩ ⟨rfl, by decide, by decide, by decide +kernel⟩ ⟨rfl, rfl⟩ ⟨by decide, by decide⟩, ?_⟩
  refine List.forall_mem_cons.mpr ⟨sw_cokV S hT hnw (mX6_queueItem hG) 102 6 (by decide) ⟨by decide +kernel, by decide +kernel, by decide +kernel, by decide +kernel, by decide +kernel⟩ ⟨rfl, by decide, by decide, by decide +kernel⟩ ⟨rfl, rfl⟩ ⟨by decide, by decide⟩, ?_⟩
  exact fun q h => absurd h List.not_mem_nil
def gX7_send (ln : sw_A) (x : Nat) (i t w : Int32) (σ : sw_S) : sw_X := (lo ln ∧ fg ln σ ∧ rz σ, some (.inl (wi_pi ln i t w 0 σ).1), (wi_pi ln i t w 0 σ).2)
def fX7_send (ln : sw_A) : sw_F := sw_foiii 7 (gX7_send ln)
def ctX7_send (ln : sw_A) : sw_C := [(36, 5, 8, fX7_putItem ln)]
abbrev wX7_send (ln : sw_A) (Q : Option sw_V → sw_S → Prop) : Nat → Nat → sw_L → List sw_V → sw_S → Prop := sw_wp sw_rf ln (ctX7_send ln) sX7_send 1 8 tX7_send Q
theorem hX7_send (ln : sw_A) (x : Nat) (i t w : Int32) (σ : sw_S) (h : (gX7_send ln x i t w σ).1) : ∃ fuel, wX7_send ln (sw_end (gX7_send ln x i t w σ)) fuel 0 (sw_ent 4 [.inr (some (7, x)), .inl i, .inl t, .inl w]) [] σ :=
  ⟨20, And.intro ⟨h.1, h.2.1, h.2.2, Or.inl rfl⟩ ⟨rfl, rfl⟩⟩
set_option maxRecDepth 100000 in
theorem mX7_send {l : Launch} {ad : sw_A} {V : Nat → Nat → Prop} {ln : sw_A} {ca : Nat → ClassId} {D : va_G} (hG : sw_wf ad V sw_rf ln) : sw_met l ad V sw_rf ln ca D yX7_send cX7_send 4 (some .int) { frames := 6, cells := 0, slots := 0, locals := 140 } 4 (fX7_send ln) := by
  refine sw_meth hG (by decide) (by refine ⟨?_, ?_, ?_, ?_⟩ <;> intro h <;> first | rfl | exact ⟨_, rfl⟩ | exact absurd h (by decide)) (by decide) kX7_send flX7_in cnX7_in ?_ (sw_foiii_h (W := fun Q L σ => ∃ fuel, wX7_send ln Q fuel 0 L [] σ) (fun a0 a1 a2 a3 σ h => hX7_send ln a0 a1 a2 a3 σ h))
  intro p e s m args below meth c S hT hnw
  refine List.forall_mem_cons.mpr ⟨sw_cokV S hT hnw (mX7_putItem hG) 36 7 (by decide) ⟨by decide +kernel, by decide +kernel, by decide +kernel, by decide +kernel, by decide +kernel⟩ ⟨rfl, by decide, by decide, by decide +kernel⟩ ⟨rfl, rfl⟩ ⟨by decide, by decide⟩, ?_⟩
  exact fun q h => absurd h List.not_mem_nil
def gX7_mark (ln : sw_A) (x : Nat) (i t : Int32) (σ : sw_S) : sw_X := (lo ln ∧ fg ln σ ∧ rz σ, some (.inl (wi_pi ln i t 0 1 σ).1), (wi_pi ln i t 0 1 σ).2)
def fX7_mark (ln : sw_A) : sw_F := sw_foii 7 (gX7_mark ln)
def ctX7_mark (ln : sw_A) : sw_C := [(36, 5, 8, fX7_putItem ln)]
abbrev wX7_mark (ln : sw_A) (Q : Option sw_V → sw_S → Prop) : Nat → Nat → sw_L → List sw_V → sw_S → Prop := sw_wp sw_rf ln (ctX7_mark ln) sX7_mark 1 8 tX7_mark Q
theorem hX7_mark (ln : sw_A) (x : Nat) (i t : Int32) (σ : sw_S) (h : (gX7_mark ln x i t σ).1) : ∃ fuel, wX7_mark ln (sw_end (gX7_mark ln x i t σ)) fuel 0 (sw_ent 3 [.inr (some (7, x)), .inl i, .inl t]) [] σ :=
  ⟨20, And.intro ⟨h.1, h.2.1, h.2.2, Or.inr rfl⟩ ⟨rfl, rfl⟩⟩
set_option maxRecDepth 100000 in
theorem mX7_mark {l : Launch} {ad : sw_A} {V : Nat → Nat → Prop} {ln : sw_A} {ca : Nat → ClassId} {D : va_G} (hG : sw_wf ad V sw_rf ln) : sw_met l ad V sw_rf ln ca D yX7_mark cX7_mark 3 (some .int) { frames := 6, cells := 0, slots := 0, locals := 140 } 3 (fX7_mark ln) := by
  refine sw_meth hG (by decide) (by refine ⟨?_, ?_, ?_, ?_⟩ <;> intro h <;> first | rfl | exact ⟨_, rfl⟩ | exact absurd h (by decide)) (by decide) kX7_mark flX7_in cnX7_in ?_ (sw_foii_h (W := fun Q L σ => ∃ fuel, wX7_mark ln Q fuel 0 L [] σ) (fun a0 a1 a2 σ h => hX7_mark ln a0 a1 a2 σ h))
  intro p e s m args below meth c S hT hnw
  refine List.forall_mem_cons.mpr ⟨sw_cokV S hT hnw (mX7_putItem hG) 36 7 (by decide) ⟨by decide +kernel, by decide +kernel, by decide +kernel, by decide +kernel, by decide +kernel⟩ ⟨rfl, by decide, by decide, by decide +kernel⟩ ⟨rfl, rfl⟩ ⟨by decide, by decide⟩, ?_⟩
  exact fun q h => absurd h List.not_mem_nil
def wi_rm (ln : sw_A) (σ : sw_S) : Option (Nat × Nat) → Option (Nat × Nat) → wi_P
  | some p, some q => (sd_ti ln q.2 σ, sd_tt ln p.2 q.2 σ)
  | _, _ => (-1, σ)
def wi_re (ln : sw_A) (i t : Int32) (σ : sw_S) : wi_P := wi_rm ln σ (wi_sa i) (wi_fl ln i t)
def gX7_receive (ln : sw_A) (x : Nat) (i t : Int32) (σ : sw_S) : sw_X := (lo ln ∧ bb σ, some (.inl (wi_re ln i t σ).1), (wi_re ln i t σ).2)
def fX7_receive (ln : sw_A) : sw_F := sw_foii 7 (gX7_receive ln)
def ctX7_receive (ln : sw_A) : sw_C := [(43, 2, 8, fX7_sideAt ln), (26, 3, 8, fX7_flowAt ln), (47, 2, 7, fX6_takeItem ln)]
abbrev wX7_receive (ln : sw_A) (Q : Option sw_V → sw_S → Prop) : Nat → Nat → sw_L → List sw_V → sw_S → Prop := sw_wp sw_rf ln (ctX7_receive ln) sX7_receive 1 31 tX7_receive Q
theorem hX7_receive (ln : sw_A) (x : Nat) (i t : Int32) (σ : sw_S) (h : (gX7_receive ln x i t σ).1) : ∃ fuel, wX7_receive ln (sw_end (gX7_receive ln x i t σ)) fuel 0 (sw_ent 5 [.inr (some (7, x)), .inl i, .inl t]) [] σ := by
  obtain ⟨hl, hb⟩ := h
  have k12 : ∃ M, ∀ r1 r2, r1 = wi_sa i → r2 = wi_fl ln i t → wX7_receive ln (sw_end (gX7_receive ln x i t σ)) M 12 [some (.inr (some (7, x))), some (.inl i), some (.inl t), some (.inr r1), none] [.inr r2] σ := by
    refine ⟨20, fun r1 r2 h1 h2 => ?_⟩
    have hp : wi_re ln i t σ = wi_rm ln σ r1 r2 := by unfold wi_re; rw [← h1, ← h2]
    cases r1 with
    | none => exact sw_pe (by rw [hp]; rfl)
    | some p =>
      obtain ⟨p1, p2⟩ := p
      have e1 : p1 = 6 := wi_sa_6 h1.symm
      subst e1
      cases r2 with
      | none => exact sw_pe (by rw [hp]; rfl)
      | some q =>
        obtain ⟨q1, q2⟩ := q
        have e2 : q1 = 1 := wi_fl_1 h2.symm
        subst e2
        exact And.intro ⟨hl, (hb _).2⟩ (sw_pe (by rw [hp]; rfl))
  obtain ⟨M, k12⟩ := k12
  exact ⟨M + 20, sw_ws_wp [12] M 20 _ _ _ _ (And.intro trivial (And.intro hl (k12 _ _ rfl rfl)))⟩
set_option maxRecDepth 100000 in
theorem mX7_receive {l : Launch} {ad : sw_A} {V : Nat → Nat → Prop} {ln : sw_A} {ca : Nat → ClassId} {D : va_G} (hG : sw_wf ad V sw_rf ln) : sw_met l ad V sw_rf ln ca D yX7_receive cX7_receive 5 (some .int) { frames := 5, cells := 0, slots := 0, locals := 105 } 3 (fX7_receive ln) := by
  refine sw_meth hG (by decide) (by refine ⟨?_, ?_, ?_, ?_⟩ <;> intro h <;> first | rfl | exact ⟨_, rfl⟩ | exact absurd h (by decide)) (by decide) kX7_receive flX7_in cnX7_in ?_ (sw_foii_h (W := fun Q L σ => ∃ fuel, wX7_receive ln Q fuel 0 L [] σ) (fun a0 a1 a2 σ h => hX7_receive ln a0 a1 a2 σ h))
  intro p e s m args below meth c S hT hnw
  refine List.forall_mem_cons.mpr ⟨sw_cokV S hT hnw (mX7_sideAt hG) 43 7 (by decide) ⟨by decide +kernel, by decide +kernel, by decide +kernel, by decide +kernel, by decide +kernel⟩ ⟨rfl, by decide, by decide, by decide +kernel⟩ ⟨rfl, rfl⟩ ⟨by decide, by decide⟩, ?_⟩
  refine List.forall_mem_cons.mpr ⟨sw_cokV S hT hnw (mX7_flowAt hG) 26 7 (by decide) ⟨by decide +kernel, by decide +kernel, by decide +kernel, by decide +kernel, by decide +kernel⟩ ⟨rfl, by decide, by decide, by decide +kernel⟩ ⟨rfl, rfl⟩ ⟨by decide, by decide⟩, ?_⟩
  refine List.forall_mem_cons.mpr ⟨sw_cokV S hT hnw (mX6_takeItem hG) 47 6 (by decide) ⟨by decide +kernel, by decide +kernel, by decide +kernel, by decide +kernel, by decide +kernel⟩ ⟨rfl, by decide, by decide, by decide +kernel⟩ ⟨rfl, rfl⟩ ⟨by decide, by decide⟩, ?_⟩
  exact fun q h => absurd h List.not_mem_nil
def wi_we (ln : sw_A) (i t w : Int32) (σ : sw_S) : wi_P := sd_om (-1, σ) (fun q => if w < 1 then (-1, σ) else if w ≤ 4 then (σ 1 q.2 4, sw_up σ 1 q.2 4 w) else (-1, σ)) (wi_fl ln i t)
def gX7_weight (ln : sw_A) (x : Nat) (i t w : Int32) (σ : sw_S) : sw_X := (lo ln, some (.inl (wi_we ln i t w σ).1), (wi_we ln i t w σ).2)
def fX7_weight (ln : sw_A) : sw_F := sw_foiii 7 (gX7_weight ln)
def ctX7_weight (ln : sw_A) : sw_C := [(26, 3, 8, fX7_flowAt ln)]
abbrev wX7_weight (ln : sw_A) (Q : Option sw_V → sw_S → Prop) : Nat → Nat → sw_L → List sw_V → sw_S → Prop := sw_wp sw_rf ln (ctX7_weight ln) sX7_weight 1 40 tX7_weight Q
theorem hX7_weight (ln : sw_A) (x : Nat) (i t w : Int32) (σ : sw_S) (h : (gX7_weight ln x i t w σ).1) : ∃ fuel, wX7_weight ln (sw_end (gX7_weight ln x i t w σ)) fuel 0 (sw_ent 6 [.inr (some (7, x)), .inl i, .inl t, .inl w]) [] σ := by
  have key : ∃ M, ∀ r, r = wi_fl ln i t → wX7_weight ln (sw_end (gX7_weight ln x i t w σ)) M 6 [some (.inr (some (7, x))), some (.inl i), some (.inl t), some (.inl w), none, none] [.inr r] σ := by
    refine ⟨30, fun r hr => ?_⟩
    cases r with
    | none => exact sw_pe (by unfold wi_we; rw [← hr]; rfl)
    | some q =>
      obtain ⟨q1, q2⟩ := q
      have e1 : q1 = 1 := wi_fl_1 hr.symm
      subst e1
      have hp : wi_we ln i t w σ = if w < 1 then (-1, σ) else if w ≤ 4 then (σ 1 q2 4, sw_up σ 1 q2 4 w) else (-1, σ) := by unfold wi_we; rw [← hr]; rfl
      exact And.intro (fun (a1 : w < 1) => sw_pe (by rw [hp, if_pos a1])) (fun (a1 : ¬ w < 1) => And.intro (fun (a2 : w ≤ 4) => sw_pe (by rw [hp, if_neg a1, if_pos a2])) (fun (a2 : ¬ w ≤ 4) => sw_pe (by rw [hp, if_neg a1, if_neg a2])))
  obtain ⟨M, key⟩ := key
  exact ⟨M + 10, sw_ws_wp [6] M 10 _ _ _ _ (And.intro h (key _ rfl))⟩
set_option maxRecDepth 100000 in
theorem mX7_weight {l : Launch} {ad : sw_A} {V : Nat → Nat → Prop} {ln : sw_A} {ca : Nat → ClassId} {D : va_G} (hG : sw_wf ad V sw_rf ln) : sw_met l ad V sw_rf ln ca D yX7_weight cX7_weight 6 (some .int) { frames := 2, cells := 0, slots := 0, locals := 44 } 4 (fX7_weight ln) := by
  refine sw_meth hG (by decide) (by refine ⟨?_, ?_, ?_, ?_⟩ <;> intro h <;> first | rfl | exact ⟨_, rfl⟩ | exact absurd h (by decide)) (by decide) kX7_weight flX7_in cnX7_in ?_ (sw_foiii_h (W := fun Q L σ => ∃ fuel, wX7_weight ln Q fuel 0 L [] σ) (fun a0 a1 a2 a3 σ h => hX7_weight ln a0 a1 a2 a3 σ h))
  intro p e s m args below meth c S hT hnw
  refine List.forall_mem_cons.mpr ⟨sw_cokV S hT hnw (mX7_flowAt hG) 26 7 (by decide) ⟨by decide +kernel, by decide +kernel, by decide +kernel, by decide +kernel, by decide +kernel⟩ ⟨rfl, by decide, by decide, by decide +kernel⟩ ⟨rfl, rfl⟩ ⟨by decide, by decide⟩, ?_⟩
  exact fun q h => absurd h List.not_mem_nil

def wi_word (ln : sw_A) (i : Int32) (σ : sw_S) : wi_P := sd_om (0, σ) (fun q => (σ 6 q.2 10, σ)) (wi_sa i)
def gX7_word (ln : sw_A) (x : Nat) (i : Int32) (σ : sw_S) : sw_X := (True, some (.inl (wi_word ln i σ).1), (wi_word ln i σ).2)
def fX7_word (ln : sw_A) : sw_F := sw_foi 7 (gX7_word ln)
def ctX7_word (ln : sw_A) : sw_C := [(43, 2, 8, fX7_sideAt ln)]
abbrev wX7_word (ln : sw_A) (Q : Option sw_V → sw_S → Prop) : Nat → Nat → sw_L → List sw_V → sw_S → Prop := sw_wp sw_rf ln (ctX7_word ln) sX7_word 1 18 tX7_word Q
theorem hX7_word (ln : sw_A) (x : Nat) (i : Int32) (σ : sw_S) (h : (gX7_word ln x i σ).1) : ∃ fuel, wX7_word ln (sw_end (gX7_word ln x i σ)) fuel 0 (sw_ent 3 [.inr (some (7, x)), .inl i]) [] σ := by
  have key : ∃ M, ∀ r, r = wi_sa i → wX7_word ln (sw_end (gX7_word ln x i σ)) M 5 [some (.inr (some (7, x))), some (.inl i), none] [.inr r] σ := by
    refine ⟨20, fun r hr => ?_⟩
    cases r with
    | none => exact sw_pe (by unfold wi_word; rw [← hr]; rfl)
    | some q =>
      obtain ⟨q1, q2⟩ := q
      have e1 : q1 = 6 := wi_sa_6 hr.symm
      subst e1
      have hp : wi_word ln i σ = (σ 6 q2 10, σ) := by unfold wi_word; rw [← hr]; rfl
      exact sw_pe hp
  obtain ⟨M, key⟩ := key
  exact ⟨M + 10, sw_ws_wp [5] M 10 _ _ _ _ (And.intro trivial (key _ rfl))⟩
set_option maxRecDepth 100000 in
theorem mX7_word {l : Launch} {ad : sw_A} {V : Nat → Nat → Prop} {ln : sw_A} {ca : Nat → ClassId} {D : va_G} (hG : sw_wf ad V sw_rf ln) : sw_met l ad V sw_rf ln ca D yX7_word cX7_word 3 (some .int) { frames := 1, cells := 0, slots := 0, locals := 21 } 2 (fX7_word ln) := by
  refine sw_meth hG (by decide) (by refine ⟨?_, ?_, ?_, ?_⟩ <;> intro h <;> first | rfl | exact ⟨_, rfl⟩ | exact absurd h (by decide)) (by decide) kX7_word flX7_in cnX7_in ?_ (sw_foi_h (W := fun Q L σ => ∃ fuel, wX7_word ln Q fuel 0 L [] σ) (fun a0 a1 σ h => hX7_word ln a0 a1 σ h))
  intro p e s m args below meth c S hT hnw
  refine List.forall_mem_cons.mpr ⟨sw_cokV S hT hnw (mX7_sideAt hG) 43 7 (by decide) ⟨by decide +kernel, by decide +kernel, by decide +kernel, by decide +kernel, by decide +kernel⟩ ⟨rfl, by decide, by decide, by decide +kernel⟩ ⟨rfl, rfl⟩ ⟨by decide, by decide⟩, ?_⟩
  exact fun q h => absurd h List.not_mem_nil

def wi_pump (ln : sw_A) (i : Int32) (σ : sw_S) : wi_P := sd_om (-1, σ) (fun q => sd_np ln q.2 σ) (wi_sa i)
def gX7_pump (ln : sw_A) (x : Nat) (i : Int32) (σ : sw_S) : sw_X := (∀ s, (gX6_sendNext ln s σ).1, some (.inl (wi_pump ln i σ).1), (wi_pump ln i σ).2)
def fX7_pump (ln : sw_A) : sw_F := sw_foi 7 (gX7_pump ln)
def ctX7_pump (ln : sw_A) : sw_C := [(43, 2, 8, fX7_sideAt ln), (58, 1, 7, fX6_sendNext ln)]
abbrev wX7_pump (ln : sw_A) (Q : Option sw_V → sw_S → Prop) : Nat → Nat → sw_L → List sw_V → sw_S → Prop := sw_wp sw_rf ln (ctX7_pump ln) sX7_pump 1 18 tX7_pump Q
theorem hX7_pump (ln : sw_A) (x : Nat) (i : Int32) (σ : sw_S) (h : (gX7_pump ln x i σ).1) : ∃ fuel, wX7_pump ln (sw_end (gX7_pump ln x i σ)) fuel 0 (sw_ent 3 [.inr (some (7, x)), .inl i]) [] σ := by
  have key : ∃ M, ∀ r, r = wi_sa i → wX7_pump ln (sw_end (gX7_pump ln x i σ)) M 5 [some (.inr (some (7, x))), some (.inl i), none] [.inr r] σ := by
    refine ⟨20, fun r hr => ?_⟩
    cases r with
    | none => exact sw_pe (by unfold wi_pump; rw [← hr]; rfl)
    | some q =>
      obtain ⟨q1, q2⟩ := q
      have e1 : q1 = 6 := wi_sa_6 hr.symm
      subst e1
      have hp : wi_pump ln i σ = sd_np ln q2 σ := by unfold wi_pump; rw [← hr]; rfl
      exact And.intro (h q2) (sw_pe hp)
  obtain ⟨M, key⟩ := key
  exact ⟨M + 10, sw_ws_wp [5] M 10 _ _ _ _ (And.intro trivial (key _ rfl))⟩
set_option maxRecDepth 100000 in
theorem mX7_pump {l : Launch} {ad : sw_A} {V : Nat → Nat → Prop} {ln : sw_A} {ca : Nat → ClassId} {D : va_G} (hG : sw_wf ad V sw_rf ln) : sw_met l ad V sw_rf ln ca D yX7_pump cX7_pump 3 (some .int) { frames := 7, cells := 0, slots := 0, locals := 149 } 2 (fX7_pump ln) := by
  refine sw_meth hG (by decide) (by refine ⟨?_, ?_, ?_, ?_⟩ <;> intro h <;> first | rfl | exact ⟨_, rfl⟩ | exact absurd h (by decide)) (by decide) kX7_pump flX7_in cnX7_in ?_ (sw_foi_h (W := fun Q L σ => ∃ fuel, wX7_pump ln Q fuel 0 L [] σ) (fun a0 a1 σ h => hX7_pump ln a0 a1 σ h))
  intro p e s m args below meth c S hT hnw
  refine List.forall_mem_cons.mpr ⟨sw_cokV S hT hnw (mX7_sideAt hG) 43 7 (by decide) ⟨by decide +kernel, by decide +kernel, by decide +kernel, by decide +kernel, by decide +kernel⟩ ⟨rfl, by decide, by decide, by decide +kernel⟩ ⟨rfl, rfl⟩ ⟨by decide, by decide⟩, ?_⟩
  refine List.forall_mem_cons.mpr ⟨sw_cokV S hT hnw (mX6_sendNext hG) 58 6 (by decide) ⟨by decide +kernel, by decide +kernel, by decide +kernel, by decide +kernel, by decide +kernel⟩ ⟨rfl, by decide, by decide, by decide +kernel⟩ ⟨rfl, rfl⟩ ⟨by decide, by decide⟩, ?_⟩
  exact fun q h => absurd h List.not_mem_nil

def wi_timeout (ln : sw_A) (i : Int32) (σ : sw_S) : wi_P := sd_om (-1, σ) (fun q => sd_ag ln q.2 (σ 3 (2 * q.2) 2).toNatClampNeg 0 0 σ) (wi_sa i)
def gX7_timeout (ln : sw_A) (x : Nat) (i : Int32) (σ : sw_S) : sw_X := (lo ln ∧ fg ln σ ∧ rz σ, some (.inl (wi_timeout ln i σ).1), (wi_timeout ln i σ).2)
def fX7_timeout (ln : sw_A) : sw_F := sw_foi 7 (gX7_timeout ln)
def ctX7_timeout (ln : sw_A) : sw_C := [(43, 2, 8, fX7_sideAt ln), (88, 1, 7, fX6_sendAgain ln)]
abbrev wX7_timeout (ln : sw_A) (Q : Option sw_V → sw_S → Prop) : Nat → Nat → sw_L → List sw_V → sw_S → Prop := sw_wp sw_rf ln (ctX7_timeout ln) sX7_timeout 1 18 tX7_timeout Q
theorem hX7_timeout (ln : sw_A) (x : Nat) (i : Int32) (σ : sw_S) (h : (gX7_timeout ln x i σ).1) : ∃ fuel, wX7_timeout ln (sw_end (gX7_timeout ln x i σ)) fuel 0 (sw_ent 3 [.inr (some (7, x)), .inl i]) [] σ := by
  have key : ∃ M, ∀ r, r = wi_sa i → wX7_timeout ln (sw_end (gX7_timeout ln x i σ)) M 5 [some (.inr (some (7, x))), some (.inl i), none] [.inr r] σ := by
    refine ⟨20, fun r hr => ?_⟩
    cases r with
    | none => exact sw_pe (by unfold wi_timeout; rw [← hr]; rfl)
    | some q =>
      obtain ⟨q1, q2⟩ := q
      have e1 : q1 = 6 := wi_sa_6 hr.symm
      subst e1
      have hp : wi_timeout ln i σ = sd_ag ln q2 (σ 3 (2 * q2) 2).toNatClampNeg 0 0 σ := by unfold wi_timeout; rw [← hr]; rfl
      exact And.intro ⟨h.1, h.2.1, h.2.2 _⟩ (sw_pe hp)
  obtain ⟨M, key⟩ := key
  exact ⟨M + 10, sw_ws_wp [5] M 10 _ _ _ _ (And.intro trivial (key _ rfl))⟩
set_option maxRecDepth 100000 in
theorem mX7_timeout {l : Launch} {ad : sw_A} {V : Nat → Nat → Prop} {ln : sw_A} {ca : Nat → ClassId} {D : va_G} (hG : sw_wf ad V sw_rf ln) : sw_met l ad V sw_rf ln ca D yX7_timeout cX7_timeout 3 (some .int) { frames := 5, cells := 0, slots := 0, locals := 110 } 2 (fX7_timeout ln) := by
  refine sw_meth hG (by decide) (by refine ⟨?_, ?_, ?_, ?_⟩ <;> intro h <;> first | rfl | exact ⟨_, rfl⟩ | exact absurd h (by decide)) (by decide) kX7_timeout flX7_in cnX7_in ?_ (sw_foi_h (W := fun Q L σ => ∃ fuel, wX7_timeout ln Q fuel 0 L [] σ) (fun a0 a1 σ h => hX7_timeout ln a0 a1 σ h))
  intro p e s m args below meth c S hT hnw
  refine List.forall_mem_cons.mpr ⟨sw_cokV S hT hnw (mX7_sideAt hG) 43 7 (by decide) ⟨by decide +kernel, by decide +kernel, by decide +kernel, by decide +kernel, by decide +kernel⟩ ⟨rfl, by decide, by decide, by decide +kernel⟩ ⟨rfl, rfl⟩ ⟨by decide, by decide⟩, ?_⟩
  refine List.forall_mem_cons.mpr ⟨sw_cokV S hT hnw (mX6_sendAgain hG) 88 6 (by decide) ⟨by decide +kernel, by decide +kernel, by decide +kernel, by decide +kernel, by decide +kernel⟩ ⟨rfl, by decide, by decide, by decide +kernel⟩ ⟨rfl, rfl⟩ ⟨by decide, by decide⟩, ?_⟩
  exact fun q h => absurd h List.not_mem_nil

def wi_side (ln : sw_A) (i w : Int32) (σ : sw_S) : wi_P := sd_om (-1, σ) (fun q => (sd_te ln q.2 w σ, σ)) (wi_sa i)
def gX7_side (ln : sw_A) (x : Nat) (i w : Int32) (σ : sw_S) : sw_X := (lo ln ∧ fg ln σ ∧ rz σ, some (.inl (wi_side ln i w σ).1), (wi_side ln i w σ).2)
def fX7_side (ln : sw_A) : sw_F := sw_foii 7 (gX7_side ln)
def ctX7_side (ln : sw_A) : sw_C := [(43, 2, 8, fX7_sideAt ln), (98, 2, 7, fX6_tell ln)]
abbrev wX7_side (ln : sw_A) (Q : Option sw_V → sw_S → Prop) : Nat → Nat → sw_L → List sw_V → sw_S → Prop := sw_wp sw_rf ln (ctX7_side ln) sX7_side 1 19 tX7_side Q
theorem hX7_side (ln : sw_A) (x : Nat) (i w : Int32) (σ : sw_S) (h : (gX7_side ln x i w σ).1) : ∃ fuel, wX7_side ln (sw_end (gX7_side ln x i w σ)) fuel 0 (sw_ent 4 [.inr (some (7, x)), .inl i, .inl w]) [] σ := by
  have key : ∃ M, ∀ r, r = wi_sa i → wX7_side ln (sw_end (gX7_side ln x i w σ)) M 5 [some (.inr (some (7, x))), some (.inl i), some (.inl w), none] [.inr r] σ := by
    refine ⟨20, fun r hr => ?_⟩
    cases r with
    | none => exact sw_pe (by unfold wi_side; rw [← hr]; rfl)
    | some q =>
      obtain ⟨q1, q2⟩ := q
      have e1 : q1 = 6 := wi_sa_6 hr.symm
      subst e1
      have hp : wi_side ln i w σ = (sd_te ln q2 w σ, σ) := by unfold wi_side; rw [← hr]; rfl
      exact And.intro ⟨h.1, h.2.1, h.2.2 _⟩ (sw_pe hp)
  obtain ⟨M, key⟩ := key
  exact ⟨M + 10, sw_ws_wp [5] M 10 _ _ _ _ (And.intro trivial (key _ rfl))⟩
set_option maxRecDepth 100000 in
theorem mX7_side {l : Launch} {ad : sw_A} {V : Nat → Nat → Prop} {ln : sw_A} {ca : Nat → ClassId} {D : va_G} (hG : sw_wf ad V sw_rf ln) : sw_met l ad V sw_rf ln ca D yX7_side cX7_side 4 (some .int) { frames := 5, cells := 0, slots := 0, locals := 112 } 3 (fX7_side ln) := by
  refine sw_meth hG (by decide) (by refine ⟨?_, ?_, ?_, ?_⟩ <;> intro h <;> first | rfl | exact ⟨_, rfl⟩ | exact absurd h (by decide)) (by decide) kX7_side flX7_in cnX7_in ?_ (sw_foii_h (W := fun Q L σ => ∃ fuel, wX7_side ln Q fuel 0 L [] σ) (fun a0 a1 a2 σ h => hX7_side ln a0 a1 a2 σ h))
  intro p e s m args below meth c S hT hnw
  refine List.forall_mem_cons.mpr ⟨sw_cokV S hT hnw (mX7_sideAt hG) 43 7 (by decide) ⟨by decide +kernel, by decide +kernel, by decide +kernel, by decide +kernel, by decide +kernel⟩ ⟨rfl, by decide, by decide, by decide +kernel⟩ ⟨rfl, rfl⟩ ⟨by decide, by decide⟩, ?_⟩
  refine List.forall_mem_cons.mpr ⟨sw_cokV S hT hnw (mX6_tell hG) 98 6 (by decide) ⟨by decide +kernel, by decide +kernel, by decide +kernel, by decide +kernel, by decide +kernel⟩ ⟨rfl, by decide, by decide, by decide +kernel⟩ ⟨rfl, rfl⟩ ⟨by decide, by decide⟩, ?_⟩
  exact fun q h => absurd h List.not_mem_nil

def wi_lose (ln : sw_A) (i : Int32) (σ : sw_S) : wi_P := sd_om (0, σ) (fun q => (if σ 3 (2 * q.2 + 1) 2 = 0 then 0 else 1, (gX3_dropFirst ln (2 * q.2 + 1) σ).2.2)) (wi_sa i)
def gX7_lose (ln : sw_A) (x : Nat) (i : Int32) (σ : sw_S) : sw_X := (True, some (.inl (wi_lose ln i σ).1), (wi_lose ln i σ).2)
def fX7_lose (ln : sw_A) : sw_F := sw_foi 7 (gX7_lose ln)
def ctX7_lose (ln : sw_A) : sw_C := [(43, 2, 8, fX7_sideAt ln), (76, 1, 4, fX3_dropFirst ln)]
abbrev wX7_lose (ln : sw_A) (Q : Option sw_V → sw_S → Prop) : Nat → Nat → sw_L → List sw_V → sw_S → Prop := sw_wp sw_rf ln (ctX7_lose ln) sX7_lose 2 25 tX7_lose Q
theorem hX7_lose (ln : sw_A) (x : Nat) (i : Int32) (σ : sw_S) (h : (gX7_lose ln x i σ).1) : ∃ fuel, wX7_lose ln (sw_end (gX7_lose ln x i σ)) fuel 0 (sw_ent 3 [.inr (some (7, x)), .inl i]) [] σ := by
  have key : ∃ M, ∀ r, r = wi_sa i → wX7_lose ln (sw_end (gX7_lose ln x i σ)) M 5 [some (.inr (some (7, x))), some (.inl i), none] [.inr r] σ := by
    refine ⟨20, fun r hr => ?_⟩
    cases r with
    | none => exact ⟨Or.inl rfl, sw_pe (by unfold wi_lose; rw [← hr]; rfl)⟩
    | some q =>
      obtain ⟨q1, q2⟩ := q
      have e1 : q1 = 6 := wi_sa_6 hr.symm
      subst e1
      have hp : wi_lose ln i σ = (if σ 3 (2 * q2 + 1) 2 = 0 then 0 else 1, (gX3_dropFirst ln (2 * q2 + 1) σ).2.2) := by unfold wi_lose; rw [← hr]; rfl
      refine And.intro trivial (And.intro (fun (a1 : (if σ 3 (2 * q2 + 1) 2 = 0 then (0 : Int32) else 1) = 0) => ⟨Or.inl rfl, sw_pe (by rw [hp, a1]; rfl)⟩) (fun (a1 : ¬ (if σ 3 (2 * q2 + 1) 2 = 0 then (0 : Int32) else 1) = 0) => ⟨Or.inr rfl, sw_pe ?_⟩))
      rw [hp]
      by_cases h0 : σ 3 (2 * q2 + 1) 2 = 0
      · rw [if_pos h0] at a1
        exact absurd rfl a1
      · rw [if_neg h0]; rfl
  obtain ⟨M, key⟩ := key
  exact ⟨M + 10, sw_ws_wp [5] M 10 _ _ _ _ (And.intro trivial (key _ rfl))⟩
set_option maxRecDepth 100000 in
theorem mX7_lose {l : Launch} {ad : sw_A} {V : Nat → Nat → Prop} {ln : sw_A} {ca : Nat → ClassId} {D : va_G} (hG : sw_wf ad V sw_rf ln) : sw_met l ad V sw_rf ln ca D yX7_lose cX7_lose 3 (some .boolean) { frames := 1, cells := 0, slots := 0, locals := 21 } 2 (fX7_lose ln) := by
  refine sw_meth hG (by decide) (by refine ⟨?_, ?_, ?_, ?_⟩ <;> intro h <;> first | rfl | exact ⟨_, rfl⟩ | exact absurd h (by decide)) (by decide) kX7_lose flX7_in cnX7_in ?_ (sw_foi_h (W := fun Q L σ => ∃ fuel, wX7_lose ln Q fuel 0 L [] σ) (fun a0 a1 σ h => hX7_lose ln a0 a1 σ h))
  intro p e s m args below meth c S hT hnw
  refine List.forall_mem_cons.mpr ⟨sw_cokV S hT hnw (mX7_sideAt hG) 43 7 (by decide) ⟨by decide +kernel, by decide +kernel, by decide +kernel, by decide +kernel, by decide +kernel⟩ ⟨rfl, by decide, by decide, by decide +kernel⟩ ⟨rfl, rfl⟩ ⟨by decide, by decide⟩, ?_⟩
  refine List.forall_mem_cons.mpr ⟨sw_cokV S hT hnw (mX3_dropFirst hG) 76 3 (by decide) ⟨by decide +kernel, by decide +kernel, by decide +kernel, by decide +kernel, by decide +kernel⟩ ⟨rfl, by decide, by decide, by decide +kernel⟩ ⟨rfl, rfl⟩ ⟨by decide, by decide⟩, ?_⟩
  exact fun q h => absurd h List.not_mem_nil

def wi_stream (ln : sw_A) (i t w : Int32) (σ : sw_S) : wi_P := sd_om (-1, σ) (fun q => (fl_te q.2 w σ, σ)) (wi_fl ln i t)
def gX7_stream (ln : sw_A) (x : Nat) (i t w : Int32) (σ : sw_S) : sw_X := (lo ln, some (.inl (wi_stream ln i t w σ).1), (wi_stream ln i t w σ).2)
def fX7_stream (ln : sw_A) : sw_F := sw_foiii 7 (gX7_stream ln)
def ctX7_stream (ln : sw_A) : sw_C := [(26, 3, 8, fX7_flowAt ln), (95, 2, 2, fX1_tell ln)]
abbrev wX7_stream (ln : sw_A) (Q : Option sw_V → sw_S → Prop) : Nat → Nat → sw_L → List sw_V → sw_S → Prop := sw_wp sw_rf ln (ctX7_stream ln) sX7_stream 1 23 tX7_stream Q
theorem hX7_stream (ln : sw_A) (x : Nat) (i t w : Int32) (σ : sw_S) (h : (gX7_stream ln x i t w σ).1) : ∃ fuel, wX7_stream ln (sw_end (gX7_stream ln x i t w σ)) fuel 0 (sw_ent 5 [.inr (some (7, x)), .inl i, .inl t, .inl w]) [] σ := by
  have key : ∃ M, ∀ r, r = wi_fl ln i t → wX7_stream ln (sw_end (gX7_stream ln x i t w σ)) M 6 [some (.inr (some (7, x))), some (.inl i), some (.inl t), some (.inl w), none] [.inr r] σ := by
    refine ⟨20, fun r hr => ?_⟩
    cases r with
    | none => exact sw_pe (by unfold wi_stream; rw [← hr]; rfl)
    | some q =>
      obtain ⟨q1, q2⟩ := q
      have e1 : q1 = 1 := wi_fl_1 hr.symm
      subst e1
      exact And.intro trivial (sw_pe (by unfold wi_stream; rw [← hr]; rfl))
  obtain ⟨M, key⟩ := key
  exact ⟨M + 10, sw_ws_wp [6] M 10 _ _ _ _ (And.intro h (key _ rfl))⟩
set_option maxRecDepth 100000 in
theorem mX7_stream {l : Launch} {ad : sw_A} {V : Nat → Nat → Prop} {ln : sw_A} {ca : Nat → ClassId} {D : va_G} (hG : sw_wf ad V sw_rf ln) : sw_met l ad V sw_rf ln ca D yX7_stream cX7_stream 5 (some .int) { frames := 2, cells := 0, slots := 0, locals := 44 } 4 (fX7_stream ln) := by
  refine sw_meth hG (by decide) (by refine ⟨?_, ?_, ?_, ?_⟩ <;> intro h <;> first | rfl | exact ⟨_, rfl⟩ | exact absurd h (by decide)) (by decide) kX7_stream flX7_in cnX7_in ?_ (sw_foiii_h (W := fun Q L σ => ∃ fuel, wX7_stream ln Q fuel 0 L [] σ) (fun a0 a1 a2 a3 σ h => hX7_stream ln a0 a1 a2 a3 σ h))
  intro p e s m args below meth c S hT hnw
  refine List.forall_mem_cons.mpr ⟨sw_cokV S hT hnw (mX7_flowAt hG) 26 7 (by decide) ⟨by decide +kernel, by decide +kernel, by decide +kernel, by decide +kernel, by decide +kernel⟩ ⟨rfl, by decide, by decide, by decide +kernel⟩ ⟨rfl, rfl⟩ ⟨by decide, by decide⟩, ?_⟩
  refine List.forall_mem_cons.mpr ⟨sw_cokV S hT hnw (mX1_tell hG) 95 1 (by decide) ⟨by decide +kernel, by decide +kernel, by decide +kernel, by decide +kernel, by decide +kernel⟩ ⟨rfl, by decide, by decide, by decide +kernel⟩ ⟨rfl, rfl⟩ ⟨by decide, by decide⟩, ?_⟩
  exact fun q h => absurd h List.not_mem_nil
def wi_wire (ln : sw_A) (i j k : Int32) (σ : sw_S) : wi_P := sd_om (0, σ) (fun q => (fr_at σ q.2 k, σ)) (wi_fr ln i j σ)
def gX7_wire (ln : sw_A) (x : Nat) (i j k : Int32) (σ : sw_S) : sw_X := (lo ln ∧ fg ln σ, some (.inl (wi_wire ln i j k σ).1), (wi_wire ln i j k σ).2)
def fX7_wire (ln : sw_A) : sw_F := sw_foiii 7 (gX7_wire ln)
def ctX7_wire (ln : sw_A) : sw_C := [(79, 3, 8, fX7_frameAt ln), (91, 2, 3, fX2_wordAt ln)]
abbrev wX7_wire (ln : sw_A) (Q : Option sw_V → sw_S → Prop) : Nat → Nat → sw_L → List sw_V → sw_S → Prop := sw_wp sw_rf ln (ctX7_wire ln) sX7_wire 1 23 tX7_wire Q
theorem hX7_wire (ln : sw_A) (x : Nat) (i j k : Int32) (σ : sw_S) (h : (gX7_wire ln x i j k σ).1) : ∃ fuel, wX7_wire ln (sw_end (gX7_wire ln x i j k σ)) fuel 0 (sw_ent 5 [.inr (some (7, x)), .inl i, .inl j, .inl k]) [] σ := by
  have key : ∃ M, ∀ r, r = wi_fr ln i j σ → wX7_wire ln (sw_end (gX7_wire ln x i j k σ)) M 6 [some (.inr (some (7, x))), some (.inl i), some (.inl j), some (.inl k), none] [.inr r] σ := by
    refine ⟨20, fun r hr => ?_⟩
    cases r with
    | none => exact sw_pe (by unfold wi_wire; rw [← hr]; rfl)
    | some q =>
      obtain ⟨q1, q2⟩ := q
      have e1 : q1 = 2 := wi_fr_2 hr.symm
      subst e1
      exact And.intro (h.2.ok h.1 q2) (sw_pe (by unfold wi_wire; rw [← hr]; rfl))
  obtain ⟨M, key⟩ := key
  exact ⟨M + 10, sw_ws_wp [6] M 10 _ _ _ _ (And.intro h.1 (key _ rfl))⟩
set_option maxRecDepth 100000 in
theorem mX7_wire {l : Launch} {ad : sw_A} {V : Nat → Nat → Prop} {ln : sw_A} {ca : Nat → ClassId} {D : va_G} (hG : sw_wf ad V sw_rf ln) : sw_met l ad V sw_rf ln ca D yX7_wire cX7_wire 5 (some .int) { frames := 3, cells := 0, slots := 0, locals := 66 } 4 (fX7_wire ln) := by
  refine sw_meth hG (by decide) (by refine ⟨?_, ?_, ?_, ?_⟩ <;> intro h <;> first | rfl | exact ⟨_, rfl⟩ | exact absurd h (by decide)) (by decide) kX7_wire flX7_in cnX7_in ?_ (sw_foiii_h (W := fun Q L σ => ∃ fuel, wX7_wire ln Q fuel 0 L [] σ) (fun a0 a1 a2 a3 σ h => hX7_wire ln a0 a1 a2 a3 σ h))
  intro p e s m args below meth c S hT hnw
  refine List.forall_mem_cons.mpr ⟨sw_cokV S hT hnw (mX7_frameAt hG) 79 7 (by decide) ⟨by decide +kernel, by decide +kernel, by decide +kernel, by decide +kernel, by decide +kernel⟩ ⟨rfl, by decide, by decide, by decide +kernel⟩ ⟨rfl, rfl⟩ ⟨by decide, by decide⟩, ?_⟩
  refine List.forall_mem_cons.mpr ⟨sw_cokV S hT hnw (mX2_wordAt hG) 91 2 (by decide) ⟨by decide +kernel, by decide +kernel, by decide +kernel, by decide +kernel, by decide +kernel⟩ ⟨rfl, by decide, by decide, by decide +kernel⟩ ⟨rfl, rfl⟩ ⟨by decide, by decide⟩, ?_⟩
  exact fun q h => absurd h List.not_mem_nil
def wi_corrupt (ln : sw_A) (i k m : Int32) (σ : sw_S) : wi_P := sd_om (0, σ) (fun q => if m = 0 then (0, σ) else (if 0 ≤ k ∧ k < σ 2 q.2 1 then 1 else 0, (gX2_flip ln q.2 k m σ).2.2)) (wi_fr ln i 0 σ)
def gX7_corrupt (ln : sw_A) (x : Nat) (i k m : Int32) (σ : sw_S) : sw_X := (lo ln ∧ fg ln σ, some (.inl (wi_corrupt ln i k m σ).1), (wi_corrupt ln i k m σ).2)
def fX7_corrupt (ln : sw_A) : sw_F := sw_foiii 7 (gX7_corrupt ln)
def ctX7_corrupt (ln : sw_A) : sw_C := [(79, 3, 8, fX7_frameAt ln), (82, 3, 3, fX2_flip ln)]
abbrev wX7_corrupt (ln : sw_A) (Q : Option sw_V → sw_S → Prop) : Nat → Nat → sw_L → List sw_V → sw_S → Prop := sw_wp sw_rf ln (ctX7_corrupt ln) sX7_corrupt 2 32 tX7_corrupt Q
theorem hX7_corrupt (ln : sw_A) (x : Nat) (i k m : Int32) (σ : sw_S) (h : (gX7_corrupt ln x i k m σ).1) : ∃ fuel, wX7_corrupt ln (sw_end (gX7_corrupt ln x i k m σ)) fuel 0 (sw_ent 5 [.inr (some (7, x)), .inl i, .inl k, .inl m]) [] σ := by
  have key : ∃ M, ∀ r, r = wi_fr ln i 0 σ → wX7_corrupt ln (sw_end (gX7_corrupt ln x i k m σ)) M 6 [some (.inr (some (7, x))), some (.inl i), some (.inl k), some (.inl m), none] [.inr r] σ := by
    refine ⟨30, fun r hr => ?_⟩
    cases r with
    | none => exact ⟨Or.inl rfl, sw_pe (by unfold wi_corrupt; rw [← hr]; rfl)⟩
    | some q =>
      obtain ⟨q1, q2⟩ := q
      have e1 : q1 = 2 := wi_fr_2 hr.symm
      subst e1
      have hp : wi_corrupt ln i k m σ = if m = 0 then (0, σ) else (if 0 ≤ k ∧ k < σ 2 q2 1 then 1 else 0, (gX2_flip ln q2 k m σ).2.2) := by unfold wi_corrupt; rw [← hr]; rfl
      refine And.intro (fun (a1 : m = 0) => ⟨Or.inl rfl, sw_pe (by rw [hp, if_pos a1])⟩) (fun (a1 : ¬ m = 0) => And.intro (h.2.ok h.1 q2) (And.intro (fun (a2 : (if 0 ≤ k ∧ k < σ 2 q2 1 then (1 : Int32) else 0) = 0) => ⟨Or.inl rfl, sw_pe (by rw [hp, if_neg a1, a2]; rfl)⟩) (fun (a2 : ¬ (if 0 ≤ k ∧ k < σ 2 q2 1 then (1 : Int32) else 0) = 0) => ⟨Or.inr rfl, sw_pe ?_⟩)))
      rw [hp, if_neg a1]
      by_cases h0 : 0 ≤ k ∧ k < σ 2 q2 1
      · rw [if_pos h0]; rfl
      · rw [if_neg h0] at a2
        exact absurd rfl a2
  obtain ⟨M, key⟩ := key
  exact ⟨M + 10, sw_ws_wp [6] M 10 _ _ _ _ (And.intro h.1 (key _ rfl))⟩
set_option maxRecDepth 100000 in
theorem mX7_corrupt {l : Launch} {ad : sw_A} {V : Nat → Nat → Prop} {ln : sw_A} {ca : Nat → ClassId} {D : va_G} (hG : sw_wf ad V sw_rf ln) : sw_met l ad V sw_rf ln ca D yX7_corrupt cX7_corrupt 5 (some .boolean) { frames := 3, cells := 0, slots := 0, locals := 66 } 4 (fX7_corrupt ln) := by
  refine sw_meth hG (by decide) (by refine ⟨?_, ?_, ?_, ?_⟩ <;> intro h <;> first | rfl | exact ⟨_, rfl⟩ | exact absurd h (by decide)) (by decide) kX7_corrupt flX7_in cnX7_in ?_ (sw_foiii_h (W := fun Q L σ => ∃ fuel, wX7_corrupt ln Q fuel 0 L [] σ) (fun a0 a1 a2 a3 σ h => hX7_corrupt ln a0 a1 a2 a3 σ h))
  intro p e s m args below meth c S hT hnw
  refine List.forall_mem_cons.mpr ⟨sw_cokV S hT hnw (mX7_frameAt hG) 79 7 (by decide) ⟨by decide +kernel, by decide +kernel, by decide +kernel, by decide +kernel, by decide +kernel⟩ ⟨rfl, by decide, by decide, by decide +kernel⟩ ⟨rfl, rfl⟩ ⟨by decide, by decide⟩, ?_⟩
  refine List.forall_mem_cons.mpr ⟨sw_cokV S hT hnw (mX2_flip hG) 82 2 (by decide) ⟨by decide +kernel, by decide +kernel, by decide +kernel, by decide +kernel, by decide +kernel⟩ ⟨rfl, by decide, by decide, by decide +kernel⟩ ⟨rfl, rfl⟩ ⟨by decide, by decide⟩, ?_⟩
  exact fun q h => absurd h List.not_mem_nil
