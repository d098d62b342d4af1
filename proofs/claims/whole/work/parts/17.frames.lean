/-! Frames and Limits -/
def gX3_size (ln : sw_A) (r : Nat) (σ : sw_S) : sw_X := (True, some (.inl (σ 3 r 2)), σ)
def fX3_size (ln : sw_A) : sw_F := sw_fo 3 (gX3_size ln)
def ctX3_size (ln : sw_A) : sw_C := []
abbrev wX3_size (ln : sw_A) (Q : Option sw_V → sw_S → Prop) : Nat → Nat → sw_L → List sw_V → sw_S → Prop := sw_wp sw_rf ln (ctX3_size ln) sX3_size 1 4 tX3_size Q
theorem hX3_size (ln : sw_A) (r : Nat) (σ : sw_S) (h : (gX3_size ln r σ).1) : ∃ fuel, wX3_size ln (sw_end (gX3_size ln r σ)) fuel 0 (sw_ent 1 [.inr (some (3, r))]) [] σ :=
  ⟨10, ⟨rfl, rfl⟩⟩
set_option maxRecDepth 100000 in
theorem mX3_size {l : Launch} {ad : sw_A} {V : Nat → Nat → Prop} {ln : sw_A} {ca : Nat → ClassId} {D : va_G} (hG : sw_wf ad V sw_rf ln) : sw_met l ad V sw_rf ln ca D yX3_size cX3_size 1 (some .int) { frames := 0, cells := 0, slots := 0, locals := 0 } 1 (fX3_size ln) := by
  refine sw_meth hG (by decide) (by refine ⟨?_, ?_, ?_, ?_⟩ <;> intro h <;> first | rfl | exact ⟨_, rfl⟩ | exact absurd h (by decide)) (by decide) kX3_size flX3_in cnX3_in ?_ (sw_fo_h (W := fun Q L σ => ∃ fuel, wX3_size ln Q fuel 0 L [] σ) (fun a0 σ h => hX3_size ln a0 σ h))
  intro p e s m args below meth c S hT hnw
  exact fun q h => absurd h List.not_mem_nil
def rg_ro (ln : sw_A) (r : Nat) (σ : sw_S) : Int32 := if nI (ln 13 r) ≤ σ 3 r 2 then 0 else 1
def gX3_hasRoom (ln : sw_A) (r : Nat) (σ : sw_S) : sw_X := (True, some (.inl (rg_ro ln r σ)), σ)
def fX3_hasRoom (ln : sw_A) : sw_F := sw_fo 3 (gX3_hasRoom ln)
def ctX3_hasRoom (ln : sw_A) : sw_C := []
abbrev wX3_hasRoom (ln : sw_A) (Q : Option sw_V → sw_S → Prop) : Nat → Nat → sw_L → List sw_V → sw_S → Prop := sw_wp sw_rf ln (ctX3_hasRoom ln) sX3_hasRoom 2 17 tX3_hasRoom Q
theorem hX3_hasRoom (ln : sw_A) (r : Nat) (σ : sw_S) (h : (gX3_hasRoom ln r σ).1) : ∃ fuel, wX3_hasRoom ln (sw_end (gX3_hasRoom ln r σ)) fuel 0 (sw_ent 1 [.inr (some (3, r))]) [] σ :=
  ⟨20, And.intro (fun h1 => ⟨Or.inl rfl, sw_ri (if_pos h1).symm, rfl⟩) (fun h1 => ⟨Or.inr rfl, sw_ri (if_neg h1).symm, rfl⟩)⟩
set_option maxRecDepth 100000 in
theorem mX3_hasRoom {l : Launch} {ad : sw_A} {V : Nat → Nat → Prop} {ln : sw_A} {ca : Nat → ClassId} {D : va_G} (hG : sw_wf ad V sw_rf ln) : sw_met l ad V sw_rf ln ca D yX3_hasRoom cX3_hasRoom 1 (some .boolean) { frames := 0, cells := 0, slots := 0, locals := 0 } 1 (fX3_hasRoom ln) := by
  refine sw_meth hG (by decide) (by refine ⟨?_, ?_, ?_, ?_⟩ <;> intro h <;> first | rfl | exact ⟨_, rfl⟩ | exact absurd h (by decide)) (by decide) kX3_hasRoom flX3_in cnX3_in ?_ (sw_fo_h (W := fun Q L σ => ∃ fuel, wX3_hasRoom ln Q fuel 0 L [] σ) (fun a0 σ h => hX3_hasRoom ln a0 σ h))
  intro p e s m args below meth c S hT hnw
  exact fun q h => absurd h List.not_mem_nil
def rg_sl (ln : sw_A) (r : Nat) (i : Int32) (σ : sw_S) : Int32 := if nI (ln 13 r) ≤ σ 3 r 1 + i then σ 3 r 1 + i - nI (ln 13 r) else σ 3 r 1 + i
def rg_at (ln : sw_A) (r : Nat) (i : Int32) (σ : sw_S) : Option (Nat × Nat) := if rg_sl ln r i σ < 0 then none else if nI (ln 13 r) ≤ rg_sl ln r i σ then none else some (2, 32 * r + (rg_sl ln r i σ).toNatClampNeg)
theorem sw_rr {x y : Option (Nat × Nat)} (h : x = y) : some (Sum.inr x : sw_V) = some (Sum.inr y) := by rw [h]
def gX3_slotAt (ln : sw_A) (r : Nat) (i : Int32) (σ : sw_S) : sw_X := (ln 13 r < 2 ^ 31, some (.inr (rg_at ln r i σ)), σ)
def fX3_slotAt (ln : sw_A) : sw_F := sw_foi 3 (gX3_slotAt ln)
def ctX3_slotAt (ln : sw_A) : sw_C := []
abbrev wX3_slotAt (ln : sw_A) (Q : Option sw_V → sw_S → Prop) : Nat → Nat → sw_L → List sw_V → sw_S → Prop := sw_wp sw_rf ln (ctX3_slotAt ln) sX3_slotAt 3 59 tX3_slotAt Q
theorem hX3_slotAt (ln : sw_A) (r : Nat) (i : Int32) (σ : sw_S) (h : (gX3_slotAt ln r i σ).1) : ∃ fuel, wX3_slotAt ln (sw_end (gX3_slotAt ln r i σ)) fuel 0 (sw_ent 3 [.inr (some (3, r)), .inl i]) [] σ := by
  have key : ∃ M, ∀ v : Int32, v = rg_sl ln r i σ → wX3_slotAt ln (sw_end (gX3_slotAt ln r i σ)) M 35 [some (.inr (some (3, r))), some (.inl i), none] [.inl v] σ := by
    refine ⟨20, ?_⟩
    intro v hv
    refine And.intro (fun (h2 : v < 0) => ⟨sw_rr ?_, rfl⟩) (fun (h2 : ¬ v < 0) => And.intro (fun (h3 : nI (ln 13 r) ≤ v) => ⟨sw_rr ?_, rfl⟩) (fun (h3 : ¬ nI (ln 13 r) ≤ v) => And.intro (show vp_in v (ln 13 r) from vp_in_lt h2 (Int32.not_le.mp h3) (Int32.le_refl _) h) ⟨sw_rr ?_, rfl⟩))
    · rw [hv] at h2
      exact (if_pos h2).symm
    · rw [hv] at h2 h3
      exact ((if_neg h2).trans (if_pos h3)).symm
    · rw [hv] at h2 h3 ⊢
      exact ((if_neg h2).trans (if_neg h3)).symm
  obtain ⟨M, key⟩ := key
  refine ⟨M + 30, sw_ws_wp [35] M 30 _ _ _ _ ?_⟩
  refine And.intro (fun (h1 : nI (ln 13 r) ≤ σ 3 r 1 + i) => ?_) (fun (h1 : ¬ nI (ln 13 r) ≤ σ 3 r 1 + i) => ?_)
  · exact key _ (if_pos h1).symm
  · exact key _ (if_neg h1).symm
set_option maxRecDepth 100000 in
theorem mX3_slotAt {l : Launch} {ad : sw_A} {V : Nat → Nat → Prop} {ln : sw_A} {ca : Nat → ClassId} {D : va_G} (hG : sw_wf ad V sw_rf ln) : sw_met l ad V sw_rf ln ca D yX3_slotAt cX3_slotAt 3 (some (.object "StreamWires$Frame")) { frames := 0, cells := 0, slots := 0, locals := 0 } 2 (fX3_slotAt ln) := by
  refine sw_meth hG (by decide) (by refine ⟨?_, ?_, ?_, ?_⟩ <;> intro h <;> first | rfl | exact ⟨_, rfl⟩ | exact absurd h (by decide)) (by decide) kX3_slotAt flX3_in cnX3_in ?_ (sw_foi_h (W := fun Q L σ => ∃ fuel, wX3_slotAt ln Q fuel 0 L [] σ) (fun a0 a1 σ h => hX3_slotAt ln a0 a1 σ h))
  intro p e s m args below meth c S hT hnw
  exact fun q h => absurd h List.not_mem_nil
def rg_fa (ln : sw_A) (r : Nat) (i : Int32) (σ : sw_S) : Option (Nat × Nat) := if i < 0 then none else if σ 3 r 2 ≤ i then none else rg_at ln r i σ
def gX3_frameAt (ln : sw_A) (r : Nat) (i : Int32) (σ : sw_S) : sw_X := (ln 13 r < 2 ^ 31, some (.inr (rg_fa ln r i σ)), σ)
def fX3_frameAt (ln : sw_A) : sw_F := sw_foi 3 (gX3_frameAt ln)
def ctX3_frameAt (ln : sw_A) : sw_C := [(28, 2, 4, fX3_slotAt ln)]
abbrev wX3_frameAt (ln : sw_A) (Q : Option sw_V → sw_S → Prop) : Nat → Nat → sw_L → List sw_V → sw_S → Prop := sw_wp sw_rf ln (ctX3_frameAt ln) sX3_frameAt 3 21 tX3_frameAt Q
theorem hX3_frameAt (ln : sw_A) (r : Nat) (i : Int32) (σ : sw_S) (h : (gX3_frameAt ln r i σ).1) : ∃ fuel, wX3_frameAt ln (sw_end (gX3_frameAt ln r i σ)) fuel 0 (sw_ent 2 [.inr (some (3, r)), .inl i]) [] σ :=
  ⟨20, And.intro (fun (h1 : i < 0) => ⟨sw_rr (if_pos h1).symm, rfl⟩) (fun (h1 : ¬ i < 0) => And.intro (fun (h2 : σ 3 r 2 ≤ i) => ⟨sw_rr ((if_neg h1).trans (if_pos h2)).symm, rfl⟩) (fun (h2 : ¬ σ 3 r 2 ≤ i) => And.intro h ⟨sw_rr ((if_neg h1).trans (if_neg h2)).symm, rfl⟩))⟩
set_option maxRecDepth 100000 in
theorem mX3_frameAt {l : Launch} {ad : sw_A} {V : Nat → Nat → Prop} {ln : sw_A} {ca : Nat → ClassId} {D : va_G} (hG : sw_wf ad V sw_rf ln) : sw_met l ad V sw_rf ln ca D yX3_frameAt cX3_frameAt 2 (some (.object "StreamWires$Frame")) { frames := 1, cells := 0, slots := 0, locals := 22 } 2 (fX3_frameAt ln) := by
  refine sw_meth hG (by decide) (by refine ⟨?_, ?_, ?_, ?_⟩ <;> intro h <;> first | rfl | exact ⟨_, rfl⟩ | exact absurd h (by decide)) (by decide) kX3_frameAt flX3_in cnX3_in ?_ (sw_foi_h (W := fun Q L σ => ∃ fuel, wX3_frameAt ln Q fuel 0 L [] σ) (fun a0 a1 σ h => hX3_frameAt ln a0 a1 σ h))
  intro p e s m args below meth c S hT hnw
  refine List.forall_mem_cons.mpr ⟨sw_cokV S hT hnw (mX3_slotAt hG) 28 3 (by decide) ⟨by decide +kernel, by decide +kernel, by decide +kernel, by decide +kernel, by decide +kernel⟩ ⟨rfl, by decide, by decide, by decide +kernel⟩ ⟨rfl, rfl⟩ ⟨by decide, by decide⟩, ?_⟩
  exact fun q h => absurd h List.not_mem_nil
def rg_as (ln : sw_A) (r : Nat) (σ : sw_S) : Option (Nat × Nat) := if rg_ro ln r σ = 0 then none else rg_at ln r (σ 3 r 2) σ
def rg_ad (ln : sw_A) (r f : Nat) (σ : sw_S) : Option (Nat × Nat) → sw_S
  | none => σ
  | some q => sw_up (gX2_copyFrom ln q.2 f σ).2.2 3 r 2 ((gX2_copyFrom ln q.2 f σ).2.2 3 r 2 + 1)
def gX3_add (ln : sw_A) (r f : Nat) (σ : sw_S) : sw_X := (ln 13 r < 2 ^ 31 ∧ ∀ q, rg_as ln r σ = some q → q.1 = 2 ∧ (gX2_copyFrom ln q.2 f σ).1, none, rg_ad ln r f σ (rg_as ln r σ))
def fX3_add (ln : sw_A) : sw_F := sw_foo 3 2 (gX3_add ln)
def ctX3_add (ln : sw_A) : sw_C := [(32, 1, 4, fX3_hasRoom ln), (28, 2, 4, fX3_slotAt ln), (36, 2, 3, fX2_copyFrom ln)]
abbrev wX3_add (ln : sw_A) (Q : Option sw_V → sw_S → Prop) : Nat → Nat → sw_L → List sw_V → sw_S → Prop := sw_wp sw_rf ln (ctX3_add ln) sX3_add 0 39 tX3_add Q
theorem hX3_add (ln : sw_A) (r f : Nat) (σ : sw_S) (h : (gX3_add ln r f σ).1) : ∃ fuel, wX3_add ln (sw_end (gX3_add ln r f σ)) fuel 0 (sw_ent 3 [.inr (some (3, r)), .inr (some (2, f))]) [] σ := by
  have key : ∃ M, ∀ s, s = rg_as ln r σ → wX3_add ln (sw_end (gX3_add ln r f σ)) M 19 [some (.inr (some (3, r))), some (.inr (some (2, f))), none] [.inr s] σ := by
    refine ⟨20, ?_⟩
    intro s hs
    cases s with
    | none =>
      refine ⟨rfl, ?_⟩
      show σ = rg_ad ln r f σ (rg_as ln r σ)
      rw [← hs]
      rfl
    | some q =>
      obtain ⟨q1, q2⟩ := q
      obtain ⟨e1, e2⟩ := h.2 _ hs.symm
      have e1 : q1 = 2 := e1
      subst e1
      refine And.intro e2 ⟨rfl, ?_⟩
      show _ = rg_ad ln r f σ (rg_as ln r σ)
      rw [← hs]
      rfl
  obtain ⟨M, key⟩ := key
  refine ⟨M + 30, sw_ws_wp [19] M 30 _ _ _ _ ?_⟩
  refine And.intro trivial (And.intro (fun (h1 : rg_ro ln r σ = 0) => ?_) (fun (h1 : ¬ rg_ro ln r σ = 0) => And.intro h.1 ?_))
  · exact key _ (if_pos h1).symm
  · exact key _ (if_neg h1).symm
set_option maxRecDepth 100000 in
theorem mX3_add {l : Launch} {ad : sw_A} {V : Nat → Nat → Prop} {ln : sw_A} {ca : Nat → ClassId} {D : va_G} (hG : sw_wf ad V sw_rf ln) : sw_met l ad V sw_rf ln ca D yX3_add cX3_add 3 none { frames := 2, cells := 0, slots := 0, locals := 43 } 2 (fX3_add ln) := by
  refine sw_meth hG (by decide) (by refine ⟨?_, ?_, ?_, ?_⟩ <;> intro h <;> first | rfl | exact ⟨_, rfl⟩ | exact absurd h (by decide)) (by decide) kX3_add flX3_in cnX3_in ?_ (sw_foo_h (W := fun Q L σ => ∃ fuel, wX3_add ln Q fuel 0 L [] σ) (fun a0 a1 σ h => hX3_add ln a0 a1 σ h))
  intro p e s m args below meth c S hT hnw
  refine List.forall_mem_cons.mpr ⟨sw_cokV S hT hnw (mX3_hasRoom hG) 32 3 (by decide) ⟨by decide +kernel, by decide +kernel, by decide +kernel, by decide +kernel, by decide +kernel⟩ ⟨rfl, by decide, by decide, by decide +kernel⟩ ⟨rfl, rfl⟩ ⟨by decide, by decide⟩, ?_⟩
  refine List.forall_mem_cons.mpr ⟨sw_cokV S hT hnw (mX3_slotAt hG) 28 3 (by decide) ⟨by decide +kernel, by decide +kernel, by decide +kernel, by decide +kernel, by decide +kernel⟩ ⟨rfl, by decide, by decide, by decide +kernel⟩ ⟨rfl, rfl⟩ ⟨by decide, by decide⟩, ?_⟩
  refine List.forall_mem_cons.mpr ⟨sw_cokV S hT hnw (mX2_copyFrom hG) 36 2 (by decide) ⟨by decide +kernel, by decide +kernel, by decide +kernel, by decide +kernel, by decide +kernel⟩ ⟨rfl, by decide, by decide, by decide +kernel⟩ ⟨rfl, rfl⟩ ⟨by decide, by decide⟩, ?_⟩
  exact fun q h => absurd h List.not_mem_nil
def rg_nf (ln : sw_A) (r : Nat) (σ : sw_S) : Int32 := if nI (ln 13 r) ≤ σ 3 r 1 + 1 then 0 else σ 3 r 1 + 1
def rg_df (ln : sw_A) (r : Nat) (σ : sw_S) : sw_S := sw_up (sw_up σ 3 r 1 (rg_nf ln r σ)) 3 r 2 (sw_up σ 3 r 1 (rg_nf ln r σ) 3 r 2 - 1)
def gX3_dropFirst (ln : sw_A) (r : Nat) (σ : sw_S) : sw_X := (True, some (.inl (if σ 3 r 2 = 0 then 0 else 1)), if σ 3 r 2 = 0 then σ else rg_df ln r σ)
def fX3_dropFirst (ln : sw_A) : sw_F := sw_fo 3 (gX3_dropFirst ln)
def ctX3_dropFirst (ln : sw_A) : sw_C := []
abbrev wX3_dropFirst (ln : sw_A) (Q : Option sw_V → sw_S → Prop) : Nat → Nat → sw_L → List sw_V → sw_S → Prop := sw_wp sw_rf ln (ctX3_dropFirst ln) sX3_dropFirst 2 48 tX3_dropFirst Q
theorem hX3_dropFirst (ln : sw_A) (r : Nat) (σ : sw_S) (h : (gX3_dropFirst ln r σ).1) : ∃ fuel, wX3_dropFirst ln (sw_end (gX3_dropFirst ln r σ)) fuel 0 (sw_ent 1 [.inr (some (3, r))]) [] σ := by
  refine ⟨40, And.intro (fun (h1 : ¬ σ 3 r 2 = 0) => And.intro (fun (h2 : nI (ln 13 r) ≤ σ 3 r 1 + 1) => ⟨Or.inr rfl, sw_ri (if_neg h1).symm, ?_⟩) (fun (h2 : ¬ nI (ln 13 r) ≤ σ 3 r 1 + 1) => ⟨Or.inr rfl, sw_ri (if_neg h1).symm, ?_⟩)) (fun (h1 : σ 3 r 2 = 0) => ⟨Or.inl rfl, sw_ri (if_pos h1).symm, (if_pos h1).symm⟩)⟩
  · show _ = if σ 3 r 2 = 0 then σ else rg_df ln r σ
    rw [if_neg h1]
    unfold rg_df rg_nf
    rw [if_pos h2]
    rfl
  · show _ = if σ 3 r 2 = 0 then σ else rg_df ln r σ
    rw [if_neg h1]
    unfold rg_df rg_nf
    rw [if_neg h2]
    rfl
set_option maxRecDepth 100000 in
theorem mX3_dropFirst {l : Launch} {ad : sw_A} {V : Nat → Nat → Prop} {ln : sw_A} {ca : Nat → ClassId} {D : va_G} (hG : sw_wf ad V sw_rf ln) : sw_met l ad V sw_rf ln ca D yX3_dropFirst cX3_dropFirst 1 (some .boolean) { frames := 0, cells := 0, slots := 0, locals := 0 } 1 (fX3_dropFirst ln) := by
  refine sw_meth hG (by decide) (by refine ⟨?_, ?_, ?_, ?_⟩ <;> intro h <;> first | rfl | exact ⟨_, rfl⟩ | exact absurd h (by decide)) (by decide) kX3_dropFirst flX3_in cnX3_in ?_ (sw_fo_h (W := fun Q L σ => ∃ fuel, wX3_dropFirst ln Q fuel 0 L [] σ) (fun a0 σ h => hX3_dropFirst ln a0 σ h))
  intro p e s m args below meth c S hT hnw
  exact fun q h => absurd h List.not_mem_nil
def gX4_longestFrame (ln : sw_A) (q : Nat) (σ : sw_S) : sw_X := (True, some (.inl (σ 4 q 1 + 3)), σ)
def fX4_longestFrame (ln : sw_A) : sw_F := sw_fo 4 (gX4_longestFrame ln)
def ctX4_longestFrame (ln : sw_A) : sw_C := []
abbrev wX4_longestFrame (ln : sw_A) (Q : Option sw_V → sw_S → Prop) : Nat → Nat → sw_L → List sw_V → sw_S → Prop := sw_wp sw_rf ln (ctX4_longestFrame ln) sX4_longestFrame 1 6 tX4_longestFrame Q
theorem hX4_longestFrame (ln : sw_A) (q : Nat) (σ : sw_S) (h : (gX4_longestFrame ln q σ).1) : ∃ fuel, wX4_longestFrame ln (sw_end (gX4_longestFrame ln q σ)) fuel 0 (sw_ent 1 [.inr (some (4, q))]) [] σ :=
  ⟨10, ⟨rfl, rfl⟩⟩
set_option maxRecDepth 100000 in
theorem mX4_longestFrame {l : Launch} {ad : sw_A} {V : Nat → Nat → Prop} {ln : sw_A} {ca : Nat → ClassId} {D : va_G} (hG : sw_wf ad V sw_rf ln) : sw_met l ad V sw_rf ln ca D yX4_longestFrame cX4_longestFrame 1 (some .int) { frames := 0, cells := 0, slots := 0, locals := 0 } 1 (fX4_longestFrame ln) := by
  refine sw_meth hG (by decide) (by refine ⟨?_, ?_, ?_, ?_⟩ <;> intro h <;> first | rfl | exact ⟨_, rfl⟩ | exact absurd h (by decide)) (by decide) kX4_longestFrame flX4_in cnX4_in ?_ (sw_fo_h (W := fun Q L σ => ∃ fuel, wX4_longestFrame ln Q fuel 0 L [] σ) (fun a0 σ h => hX4_longestFrame ln a0 σ h))
  intro p e s m args below meth c S hT hnw
  exact fun q h => absurd h List.not_mem_nil
def li_nb (q : Nat) (a b : Int32) (σ : sw_S) : Int32 := if a + b ≤ σ 4 q 2 then a + b else a + b - σ 4 q 2 - 1
def gX4_numberBehind (ln : sw_A) (q : Nat) (a b : Int32) (σ : sw_S) : sw_X := (True, some (.inl (li_nb q a b σ)), σ)
def fX4_numberBehind (ln : sw_A) : sw_F := sw_foii 4 (gX4_numberBehind ln)
def ctX4_numberBehind (ln : sw_A) : sw_C := []
abbrev wX4_numberBehind (ln : sw_A) (Q : Option sw_V → sw_S → Prop) : Nat → Nat → sw_L → List sw_V → sw_S → Prop := sw_wp sw_rf ln (ctX4_numberBehind ln) sX4_numberBehind 1 24 tX4_numberBehind Q
theorem hX4_numberBehind (ln : sw_A) (q : Nat) (a b : Int32) (σ : sw_S) (h : (gX4_numberBehind ln q a b σ).1) : ∃ fuel, wX4_numberBehind ln (sw_end (gX4_numberBehind ln q a b σ)) fuel 0 (sw_ent 4 [.inr (some (4, q)), .inl a, .inl b]) [] σ :=
  ⟨20, And.intro (fun (h1 : a + b ≤ σ 4 q 2) => ⟨sw_ri (if_pos h1).symm, rfl⟩) (fun (h1 : ¬ a + b ≤ σ 4 q 2) => ⟨sw_ri (if_neg h1).symm, rfl⟩)⟩
set_option maxRecDepth 100000 in
theorem mX4_numberBehind {l : Launch} {ad : sw_A} {V : Nat → Nat → Prop} {ln : sw_A} {ca : Nat → ClassId} {D : va_G} (hG : sw_wf ad V sw_rf ln) : sw_met l ad V sw_rf ln ca D yX4_numberBehind cX4_numberBehind 4 (some .int) { frames := 0, cells := 0, slots := 0, locals := 0 } 3 (fX4_numberBehind ln) := by
  refine sw_meth hG (by decide) (by refine ⟨?_, ?_, ?_, ?_⟩ <;> intro h <;> first | rfl | exact ⟨_, rfl⟩ | exact absurd h (by decide)) (by decide) kX4_numberBehind flX4_in cnX4_in ?_ (sw_foii_h (W := fun Q L σ => ∃ fuel, wX4_numberBehind ln Q fuel 0 L [] σ) (fun a0 a1 a2 σ h => hX4_numberBehind ln a0 a1 a2 σ h))
  intro p e s m args below meth c S hT hnw
  exact fun q h => absurd h List.not_mem_nil
def li_sb (q : Nat) (a b : Int32) (σ : sw_S) : Int32 := if b < a then b - a + σ 4 q 2 + 1 else b - a
def gX4_stepsBetween (ln : sw_A) (q : Nat) (a b : Int32) (σ : sw_S) : sw_X := (True, some (.inl (li_sb q a b σ)), σ)
def fX4_stepsBetween (ln : sw_A) : sw_F := sw_foii 4 (gX4_stepsBetween ln)
def ctX4_stepsBetween (ln : sw_A) : sw_C := []
abbrev wX4_stepsBetween (ln : sw_A) (Q : Option sw_V → sw_S → Prop) : Nat → Nat → sw_L → List sw_V → sw_S → Prop := sw_wp sw_rf ln (ctX4_stepsBetween ln) sX4_stepsBetween 1 21 tX4_stepsBetween Q
theorem hX4_stepsBetween (ln : sw_A) (q : Nat) (a b : Int32) (σ : sw_S) (h : (gX4_stepsBetween ln q a b σ).1) : ∃ fuel, wX4_stepsBetween ln (sw_end (gX4_stepsBetween ln q a b σ)) fuel 0 (sw_ent 3 [.inr (some (4, q)), .inl a, .inl b]) [] σ :=
  ⟨20, And.intro (fun (h1 : b < a) => ⟨sw_ri (if_pos h1).symm, rfl⟩) (fun (h1 : ¬ b < a) => ⟨sw_ri (if_neg h1).symm, rfl⟩)⟩
set_option maxRecDepth 100000 in
theorem mX4_stepsBetween {l : Launch} {ad : sw_A} {V : Nat → Nat → Prop} {ln : sw_A} {ca : Nat → ClassId} {D : va_G} (hG : sw_wf ad V sw_rf ln) : sw_met l ad V sw_rf ln ca D yX4_stepsBetween cX4_stepsBetween 3 (some .int) { frames := 0, cells := 0, slots := 0, locals := 0 } 3 (fX4_stepsBetween ln) := by
  refine sw_meth hG (by decide) (by refine ⟨?_, ?_, ?_, ?_⟩ <;> intro h <;> first | rfl | exact ⟨_, rfl⟩ | exact absurd h (by decide)) (by decide) kX4_stepsBetween flX4_in cnX4_in ?_ (sw_foii_h (W := fun Q L σ => ∃ fuel, wX4_stepsBetween ln Q fuel 0 L [] σ) (fun a0 a1 a2 σ h => hX4_stepsBetween ln a0 a1 a2 σ h))
  intro p e s m args below meth c S hT hnw
  exact fun q h => absurd h List.not_mem_nil
