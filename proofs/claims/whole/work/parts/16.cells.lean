/-! Cells and Queue -/
def ce_ok (ln : sw_A) (k : Nat) : Prop := ln 9 k = ln 11 k ∧ ln 10 k = ln 11 k ∧ ln 11 k < 2 ^ 31
def ce_ho (ln : sw_A) (k : Nat) (i : Int32) : Int32 := if i < 0 then 0 else if nI (ln 11 k) ≤ i then 0 else 1
theorem ce_ho_in {ln : sw_A} {k : Nat} {i : Int32} (h : ¬ ce_ho ln k i = 0) (hl : ln 11 k < 2 ^ 31) : vp_in i (ln 11 k) := by
  unfold ce_ho at h
  by_cases h1 : i < 0
  · rw [if_pos h1] at h
    exact absurd rfl h
  · rw [if_neg h1] at h
    by_cases h2 : nI (ln 11 k) ≤ i
    · rw [if_pos h2] at h
      exact absurd rfl h
    · exact vp_in_lt h1 (Int32.not_le.mp h2) (Int32.le_refl _) hl
def gX0_holds (ln : sw_A) (k : Nat) (i : Int32) (σ : sw_S) : sw_X := (True, some (.inl (ce_ho ln k i)), σ)
def fX0_holds (ln : sw_A) : sw_F := sw_foi 0 (gX0_holds ln)
def ctX0_holds (ln : sw_A) : sw_C := []
abbrev wX0_holds (ln : sw_A) (Q : Option sw_V → sw_S → Prop) : Nat → Nat → sw_L → List sw_V → sw_S → Prop := sw_wp sw_rf ln (ctX0_holds ln) sX0_holds 2 18 tX0_holds Q
theorem hX0_holds (ln : sw_A) (k : Nat) (i : Int32) (σ : sw_S) (h : (gX0_holds ln k i σ).1) : ∃ fuel, wX0_holds ln (sw_end (gX0_holds ln k i σ)) fuel 0 (sw_ent 2 [.inr (some (0, k)), .inl i]) [] σ :=
  ⟨20, And.intro (fun h1 => ⟨Or.inl rfl, sw_ri (if_pos h1).symm, rfl⟩) (fun h1 => And.intro (fun h2 => ⟨Or.inl rfl, sw_ri ((if_neg h1).trans (if_pos h2)).symm, rfl⟩) (fun h2 => ⟨Or.inr rfl, sw_ri ((if_neg h1).trans (if_neg h2)).symm, rfl⟩))⟩
set_option maxRecDepth 100000 in
theorem mX0_holds {l : Launch} {ad : sw_A} {V : Nat → Nat → Prop} {ln : sw_A} {ca : Nat → ClassId} {D : va_G} (hG : sw_wf ad V sw_rf ln) : sw_met l ad V sw_rf ln ca D yX0_holds cX0_holds 2 (some .boolean) { frames := 0, cells := 0, slots := 0, locals := 0 } 2 (fX0_holds ln) := by
  refine sw_meth hG (by decide) (by refine ⟨?_, ?_, ?_, ?_⟩ <;> intro h <;> first | rfl | exact ⟨_, rfl⟩ | exact absurd h (by decide)) (by decide) kX0_holds flX0_in cnX0_in ?_ (sw_foi_h (W := fun Q L σ => ∃ fuel, wX0_holds ln Q fuel 0 L [] σ) (fun a0 a1 σ h => hX0_holds ln a0 a1 σ h))
  intro p e s m args below meth c S hT hnw
  exact fun q h => absurd h List.not_mem_nil
def ce_fi (k : Nat) (c w b : Int32) (σ : sw_S) : sw_S := sw_up (sw_up (sw_up (sw_up σ 0 k 3 (σ 11 k c.toNatClampNeg)) 9 k c.toNatClampNeg w) 10 k c.toNatClampNeg b) 11 k c.toNatClampNeg (-1)
def ce_fc (ln : sw_A) (k : Nat) (σ : sw_S) : Int32 := if ce_ho ln k (σ 0 k 3) = 0 then -1 else σ 0 k 3
def gX0_fill (ln : sw_A) (k : Nat) (w b : Int32) (σ : sw_S) : sw_X := (ce_ok ln k ∧ sw_bo b, some (.inl (ce_fc ln k σ)), if ce_ho ln k (σ 0 k 3) = 0 then σ else ce_fi k (σ 0 k 3) w b σ)
def fX0_fill (ln : sw_A) : sw_F := sw_foii 0 (gX0_fill ln)
def ctX0_fill (ln : sw_A) : sw_C := [(30, 2, 1, fX0_holds ln)]
abbrev wX0_fill (ln : sw_A) (Q : Option sw_V → sw_S → Prop) : Nat → Nat → sw_L → List sw_V → sw_S → Prop := sw_wp sw_rf ln (ctX0_fill ln) sX0_fill 1 47 tX0_fill Q
theorem hX0_fill (ln : sw_A) (k : Nat) (w b : Int32) (σ : sw_S) (h : (gX0_fill ln k w b σ).1) : ∃ fuel, wX0_fill ln (sw_end (gX0_fill ln k w b σ)) fuel 0 (sw_ent 4 [.inr (some (0, k)), .inl w, .inl b]) [] σ := by
  obtain ⟨⟨e1, e2, e3⟩, hb⟩ := h
  refine ⟨40, And.intro trivial (And.intro (fun (h1 : ¬ ce_ho ln k (σ 0 k 3) = 0) => ?_) (fun (h1 : ce_ho ln k (σ 0 k 3) = 0) => ⟨sw_ri (if_pos h1).symm, (if_pos h1).symm⟩))⟩
  have hv := ce_ho_in h1 e3
  have hv1 : vp_in (σ 0 k 3) (ln 9 k) := by rw [e1]; exact hv
  have hv2 : vp_in (σ 0 k 3) (ln 10 k) := by rw [e2]; exact hv
  exact And.intro hv (And.intro hv1 (And.intro hv2 (And.intro hb (And.intro hv ⟨sw_ri (if_neg h1).symm, (if_neg h1).symm⟩))))
set_option maxRecDepth 100000 in
theorem mX0_fill {l : Launch} {ad : sw_A} {V : Nat → Nat → Prop} {ln : sw_A} {ca : Nat → ClassId} {D : va_G} (hG : sw_wf ad V sw_rf ln) : sw_met l ad V sw_rf ln ca D yX0_fill cX0_fill 4 (some .int) { frames := 1, cells := 0, slots := 0, locals := 21 } 3 (fX0_fill ln) := by
  refine sw_meth hG (by decide) (by refine ⟨?_, ?_, ?_, ?_⟩ <;> intro h <;> first | rfl | exact ⟨_, rfl⟩ | exact absurd h (by decide)) (by decide) kX0_fill flX0_in cnX0_in ?_ (sw_foii_h (W := fun Q L σ => ∃ fuel, wX0_fill ln Q fuel 0 L [] σ) (fun a0 a1 a2 σ h => hX0_fill ln a0 a1 a2 σ h))
  intro p e s m args below meth c S hT hnw
  refine List.forall_mem_cons.mpr ⟨sw_cokV S hT hnw (mX0_holds hG) 30 0 (by decide) ⟨by decide +kernel, by decide +kernel, by decide +kernel, by decide +kernel, by decide +kernel⟩ ⟨rfl, by decide, by decide, by decide +kernel⟩ ⟨rfl, rfl⟩ ⟨by decide, by decide⟩, ?_⟩
  exact fun q h => absurd h List.not_mem_nil
def gX0_chain (ln : sw_A) (k : Nat) (i v : Int32) (σ : sw_S) : sw_X := (ce_ok ln k, none, if ce_ho ln k i = 0 then σ else sw_up σ 11 k i.toNatClampNeg v)
def fX0_chain (ln : sw_A) : sw_F := sw_foii 0 (gX0_chain ln)
def ctX0_chain (ln : sw_A) : sw_C := [(30, 2, 1, fX0_holds ln)]
abbrev wX0_chain (ln : sw_A) (Q : Option sw_V → sw_S → Prop) : Nat → Nat → sw_L → List sw_V → sw_S → Prop := sw_wp sw_rf ln (ctX0_chain ln) sX0_chain 0 15 tX0_chain Q
theorem hX0_chain (ln : sw_A) (k : Nat) (i v : Int32) (σ : sw_S) (h : (gX0_chain ln k i v σ).1) : ∃ fuel, wX0_chain ln (sw_end (gX0_chain ln k i v σ)) fuel 0 (sw_ent 3 [.inr (some (0, k)), .inl i, .inl v]) [] σ :=
  ⟨40, And.intro trivial (And.intro (fun (h1 : ce_ho ln k i = 0) => ⟨rfl, (if_pos h1).symm⟩) (fun (h1 : ¬ ce_ho ln k i = 0) => And.intro (ce_ho_in h1 h.2.2) ⟨rfl, (if_neg h1).symm⟩))⟩
set_option maxRecDepth 100000 in
theorem mX0_chain {l : Launch} {ad : sw_A} {V : Nat → Nat → Prop} {ln : sw_A} {ca : Nat → ClassId} {D : va_G} (hG : sw_wf ad V sw_rf ln) : sw_met l ad V sw_rf ln ca D yX0_chain cX0_chain 3 none { frames := 1, cells := 0, slots := 0, locals := 21 } 3 (fX0_chain ln) := by
  refine sw_meth hG (by decide) (by refine ⟨?_, ?_, ?_, ?_⟩ <;> intro h <;> first | rfl | exact ⟨_, rfl⟩ | exact absurd h (by decide)) (by decide) kX0_chain flX0_in cnX0_in ?_ (sw_foii_h (W := fun Q L σ => ∃ fuel, wX0_chain ln Q fuel 0 L [] σ) (fun a0 a1 a2 σ h => hX0_chain ln a0 a1 a2 σ h))
  intro p e s m args below meth c S hT hnw
  refine List.forall_mem_cons.mpr ⟨sw_cokV S hT hnw (mX0_holds hG) 30 0 (by decide) ⟨by decide +kernel, by decide +kernel, by decide +kernel, by decide +kernel, by decide +kernel⟩ ⟨rfl, by decide, by decide, by decide +kernel⟩ ⟨rfl, rfl⟩ ⟨by decide, by decide⟩, ?_⟩
  exact fun q h => absurd h List.not_mem_nil
def gX0_giveBack (ln : sw_A) (k : Nat) (i : Int32) (σ : sw_S) : sw_X := (ce_ok ln k, some (.inl (if ce_ho ln k i = 0 then -1 else σ 11 k i.toNatClampNeg)), if ce_ho ln k i = 0 then σ else sw_up (sw_up σ 11 k i.toNatClampNeg (σ 0 k 3)) 0 k 3 i)
def fX0_giveBack (ln : sw_A) : sw_F := sw_foi 0 (gX0_giveBack ln)
def ctX0_giveBack (ln : sw_A) : sw_C := [(30, 2, 1, fX0_holds ln)]
abbrev wX0_giveBack (ln : sw_A) (Q : Option sw_V → sw_S → Prop) : Nat → Nat → sw_L → List sw_V → sw_S → Prop := sw_wp sw_rf ln (ctX0_giveBack ln) sX0_giveBack 1 33 tX0_giveBack Q
theorem hX0_giveBack (ln : sw_A) (k : Nat) (i : Int32) (σ : sw_S) (h : (gX0_giveBack ln k i σ).1) : ∃ fuel, wX0_giveBack ln (sw_end (gX0_giveBack ln k i σ)) fuel 0 (sw_ent 3 [.inr (some (0, k)), .inl i]) [] σ :=
  ⟨40, And.intro trivial (And.intro (fun (h1 : ¬ ce_ho ln k i = 0) => And.intro (ce_ho_in h1 h.2.2) (And.intro (ce_ho_in h1 h.2.2) ⟨sw_ri (if_neg h1).symm, (if_neg h1).symm⟩)) (fun (h1 : ce_ho ln k i = 0) => ⟨sw_ri (if_pos h1).symm, (if_pos h1).symm⟩))⟩
set_option maxRecDepth 100000 in
theorem mX0_giveBack {l : Launch} {ad : sw_A} {V : Nat → Nat → Prop} {ln : sw_A} {ca : Nat → ClassId} {D : va_G} (hG : sw_wf ad V sw_rf ln) : sw_met l ad V sw_rf ln ca D yX0_giveBack cX0_giveBack 3 (some .int) { frames := 1, cells := 0, slots := 0, locals := 21 } 2 (fX0_giveBack ln) := by
  refine sw_meth hG (by decide) (by refine ⟨?_, ?_, ?_, ?_⟩ <;> intro h <;> first | rfl | exact ⟨_, rfl⟩ | exact absurd h (by decide)) (by decide) kX0_giveBack flX0_in cnX0_in ?_ (sw_foi_h (W := fun Q L σ => ∃ fuel, wX0_giveBack ln Q fuel 0 L [] σ) (fun a0 a1 σ h => hX0_giveBack ln a0 a1 σ h))
  intro p e s m args below meth c S hT hnw
  refine List.forall_mem_cons.mpr ⟨sw_cokV S hT hnw (mX0_holds hG) 30 0 (by decide) ⟨by decide +kernel, by decide +kernel, by decide +kernel, by decide +kernel, by decide +kernel⟩ ⟨rfl, by decide, by decide, by decide +kernel⟩ ⟨rfl, rfl⟩ ⟨by decide, by decide⟩, ?_⟩
  exact fun q h => absurd h List.not_mem_nil
def ce_wo (ln : sw_A) (k : Nat) (i : Int32) (σ : sw_S) : Int32 := if ce_ho ln k i = 0 then 0 else σ 9 k i.toNatClampNeg
def gX0_wordIn (ln : sw_A) (k : Nat) (i : Int32) (σ : sw_S) : sw_X := (ce_ok ln k, some (.inl (ce_wo ln k i σ)), σ)
def fX0_wordIn (ln : sw_A) : sw_F := sw_foi 0 (gX0_wordIn ln)
def ctX0_wordIn (ln : sw_A) : sw_C := [(30, 2, 1, fX0_holds ln)]
abbrev wX0_wordIn (ln : sw_A) (Q : Option sw_V → sw_S → Prop) : Nat → Nat → sw_L → List sw_V → sw_S → Prop := sw_wp sw_rf ln (ctX0_wordIn ln) sX0_wordIn 1 18 tX0_wordIn Q
theorem hX0_wordIn (ln : sw_A) (k : Nat) (i : Int32) (σ : sw_S) (h : (gX0_wordIn ln k i σ).1) : ∃ fuel, wX0_wordIn ln (sw_end (gX0_wordIn ln k i σ)) fuel 0 (sw_ent 2 [.inr (some (0, k)), .inl i]) [] σ :=
  ⟨40, And.intro trivial (And.intro (fun (h1 : ce_ho ln k i = 0) => ⟨sw_ri (if_pos h1).symm, rfl⟩) (fun (h1 : ¬ ce_ho ln k i = 0) => And.intro (show vp_in i (ln 9 k) by rw [h.1]; exact ce_ho_in h1 h.2.2) ⟨sw_ri (if_neg h1).symm, rfl⟩))⟩
set_option maxRecDepth 100000 in
theorem mX0_wordIn {l : Launch} {ad : sw_A} {V : Nat → Nat → Prop} {ln : sw_A} {ca : Nat → ClassId} {D : va_G} (hG : sw_wf ad V sw_rf ln) : sw_met l ad V sw_rf ln ca D yX0_wordIn cX0_wordIn 2 (some .int) { frames := 1, cells := 0, slots := 0, locals := 21 } 2 (fX0_wordIn ln) := by
  refine sw_meth hG (by decide) (by refine ⟨?_, ?_, ?_, ?_⟩ <;> intro h <;> first | rfl | exact ⟨_, rfl⟩ | exact absurd h (by decide)) (by decide) kX0_wordIn flX0_in cnX0_in ?_ (sw_foi_h (W := fun Q L σ => ∃ fuel, wX0_wordIn ln Q fuel 0 L [] σ) (fun a0 a1 σ h => hX0_wordIn ln a0 a1 σ h))
  intro p e s m args below meth c S hT hnw
  refine List.forall_mem_cons.mpr ⟨sw_cokV S hT hnw (mX0_holds hG) 30 0 (by decide) ⟨by decide +kernel, by decide +kernel, by decide +kernel, by decide +kernel, by decide +kernel⟩ ⟨rfl, by decide, by decide, by decide +kernel⟩ ⟨rfl, rfl⟩ ⟨by decide, by decide⟩, ?_⟩
  exact fun q h => absurd h List.not_mem_nil
def ce_mk (ln : sw_A) (k : Nat) (i : Int32) (σ : sw_S) : Int32 := if ce_ho ln k i = 0 then 0 else if σ 10 k i.toNatClampNeg = 0 then 0 else 1
def gX0_isMark (ln : sw_A) (k : Nat) (i : Int32) (σ : sw_S) : sw_X := (ce_ok ln k, some (.inl (ce_mk ln k i σ)), σ)
def fX0_isMark (ln : sw_A) : sw_F := sw_foi 0 (gX0_isMark ln)
def ctX0_isMark (ln : sw_A) : sw_C := [(30, 2, 1, fX0_holds ln)]
abbrev wX0_isMark (ln : sw_A) (Q : Option sw_V → sw_S → Prop) : Nat → Nat → sw_L → List sw_V → sw_S → Prop := sw_wp sw_rf ln (ctX0_isMark ln) sX0_isMark 2 22 tX0_isMark Q
theorem hX0_isMark (ln : sw_A) (k : Nat) (i : Int32) (σ : sw_S) (h : (gX0_isMark ln k i σ).1) : ∃ fuel, wX0_isMark ln (sw_end (gX0_isMark ln k i σ)) fuel 0 (sw_ent 2 [.inr (some (0, k)), .inl i]) [] σ :=
  ⟨40, And.intro trivial (And.intro (fun (h1 : ce_ho ln k i = 0) => ⟨Or.inl rfl, sw_ri (if_pos h1).symm, rfl⟩) (fun (h1 : ¬ ce_ho ln k i = 0) => And.intro (show vp_in i (ln 10 k) by rw [h.2.1]; exact ce_ho_in h1 h.2.2) (And.intro (fun (h2 : σ 10 k i.toNatClampNeg = 0) => ⟨Or.inl rfl, sw_ri ((if_neg h1).trans (if_pos h2)).symm, rfl⟩) (fun (h2 : ¬ σ 10 k i.toNatClampNeg = 0) => ⟨Or.inr rfl, sw_ri ((if_neg h1).trans (if_neg h2)).symm, rfl⟩))))⟩
set_option maxRecDepth 100000 in
theorem mX0_isMark {l : Launch} {ad : sw_A} {V : Nat → Nat → Prop} {ln : sw_A} {ca : Nat → ClassId} {D : va_G} (hG : sw_wf ad V sw_rf ln) : sw_met l ad V sw_rf ln ca D yX0_isMark cX0_isMark 2 (some .boolean) { frames := 1, cells := 0, slots := 0, locals := 21 } 2 (fX0_isMark ln) := by
  refine sw_meth hG (by decide) (by refine ⟨?_, ?_, ?_, ?_⟩ <;> intro h <;> first | rfl | exact ⟨_, rfl⟩ | exact absurd h (by decide)) (by decide) kX0_isMark flX0_in cnX0_in ?_ (sw_foi_h (W := fun Q L σ => ∃ fuel, wX0_isMark ln Q fuel 0 L [] σ) (fun a0 a1 σ h => hX0_isMark ln a0 a1 σ h))
  intro p e s m args below meth c S hT hnw
  refine List.forall_mem_cons.mpr ⟨sw_cokV S hT hnw (mX0_holds hG) 30 0 (by decide) ⟨by decide +kernel, by decide +kernel, by decide +kernel, by decide +kernel, by decide +kernel⟩ ⟨rfl, by decide, by decide, by decide +kernel⟩ ⟨rfl, rfl⟩ ⟨by decide, by decide⟩, ?_⟩
  exact fun q h => absurd h List.not_mem_nil
def gX5_size (ln : sw_A) (q : Nat) (σ : sw_S) : sw_X := (True, some (.inl (σ 5 q 3)), σ)
def fX5_size (ln : sw_A) : sw_F := sw_fo 5 (gX5_size ln)
def ctX5_size (ln : sw_A) : sw_C := []
abbrev wX5_size (ln : sw_A) (Q : Option sw_V → sw_S → Prop) : Nat → Nat → sw_L → List sw_V → sw_S → Prop := sw_wp sw_rf ln (ctX5_size ln) sX5_size 1 4 tX5_size Q
theorem hX5_size (ln : sw_A) (q : Nat) (σ : sw_S) (h : (gX5_size ln q σ).1) : ∃ fuel, wX5_size ln (sw_end (gX5_size ln q σ)) fuel 0 (sw_ent 1 [.inr (some (5, q))]) [] σ :=
  ⟨10, ⟨rfl, rfl⟩⟩
set_option maxRecDepth 100000 in
theorem mX5_size {l : Launch} {ad : sw_A} {V : Nat → Nat → Prop} {ln : sw_A} {ca : Nat → ClassId} {D : va_G} (hG : sw_wf ad V sw_rf ln) : sw_met l ad V sw_rf ln ca D yX5_size cX5_size 1 (some .int) { frames := 0, cells := 0, slots := 0, locals := 0 } 1 (fX5_size ln) := by
  refine sw_meth hG (by decide) (by refine ⟨?_, ?_, ?_, ?_⟩ <;> intro h <;> first | rfl | exact ⟨_, rfl⟩ | exact absurd h (by decide)) (by decide) kX5_size flX5_in cnX5_in ?_ (sw_fo_h (W := fun Q L σ => ∃ fuel, wX5_size ln Q fuel 0 L [] σ) (fun a0 σ h => hX5_size ln a0 σ h))
  intro p e s m args below meth c S hT hnw
  exact fun q h => absurd h List.not_mem_nil
def qu_pb (ln : sw_A) (q : Nat) (c : Int32) (σ : sw_S) : sw_S := if σ 5 q 3 = 0 then sw_up σ 5 q 1 c else (gX0_chain ln (q / 16) (σ 5 q 2) c σ).2.2
def qu_pc (q : Nat) (c : Int32) (σ : sw_S) : sw_S := sw_up (sw_up σ 5 q 2 c) 5 q 3 (sw_up σ 5 q 2 c 5 q 3 + 1)
def qu_pu (ln : sw_A) (q : Nat) (w b : Int32) (σ : sw_S) : sw_S := if ce_fc ln (q / 16) σ = -1 then (gX0_fill ln (q / 16) w b σ).2.2 else qu_pc q (ce_fc ln (q / 16) σ) (qu_pb ln q (ce_fc ln (q / 16) σ) (gX0_fill ln (q / 16) w b σ).2.2)
def gX5_put (ln : sw_A) (q : Nat) (w b : Int32) (σ : sw_S) : sw_X := (ce_ok ln (q / 16) ∧ sw_bo b, none, qu_pu ln q w b σ)
def fX5_put (ln : sw_A) : sw_F := sw_foii 5 (gX5_put ln)
def ctX5_put (ln : sw_A) : sw_C := [(25, 3, 1, fX0_fill ln), (29, 3, 1, fX0_chain ln)]
abbrev wX5_put (ln : sw_A) (Q : Option sw_V → sw_S → Prop) : Nat → Nat → sw_L → List sw_V → sw_S → Prop := sw_wp sw_rf ln (ctX5_put ln) sX5_put 0 58 tX5_put Q
theorem hX5_put (ln : sw_A) (q : Nat) (w b : Int32) (σ : sw_S) (h : (gX5_put ln q w b σ).1) : ∃ fuel, wX5_put ln (sw_end (gX5_put ln q w b σ)) fuel 0 (sw_ent 4 [.inr (some (5, q)), .inl w, .inl b]) [] σ := by
  refine ⟨40, And.intro h (And.intro (fun (h1 : ¬ ce_fc ln (q / 16) σ = -1) => ?_) (fun (h1 : ce_fc ln (q / 16) σ = -1) => ⟨rfl, (if_pos h1).symm⟩))⟩
  refine And.intro (fun (h2 : ¬ (gX0_fill ln (q / 16) w b σ).2.2 5 q 3 = 0) => And.intro h.1 ⟨rfl, ?_⟩) (fun (h2 : (gX0_fill ln (q / 16) w b σ).2.2 5 q 3 = 0) => ⟨rfl, ?_⟩)
  · show _ = qu_pu ln q w b σ
    unfold qu_pu qu_pb
    rw [if_neg h1, if_neg h2]
    rfl
  · show _ = qu_pu ln q w b σ
    unfold qu_pu qu_pb
    rw [if_neg h1, if_pos h2]
    rfl
set_option maxRecDepth 100000 in
theorem mX5_put {l : Launch} {ad : sw_A} {V : Nat → Nat → Prop} {ln : sw_A} {ca : Nat → ClassId} {D : va_G} (hG : sw_wf ad V sw_rf ln) : sw_met l ad V sw_rf ln ca D yX5_put cX5_put 4 none { frames := 2, cells := 0, slots := 0, locals := 44 } 3 (fX5_put ln) := by
  refine sw_meth hG (by decide) (by refine ⟨?_, ?_, ?_, ?_⟩ <;> intro h <;> first | rfl | exact ⟨_, rfl⟩ | exact absurd h (by decide)) (by decide) kX5_put flX5_in cnX5_in ?_ (sw_foii_h (W := fun Q L σ => ∃ fuel, wX5_put ln Q fuel 0 L [] σ) (fun a0 a1 a2 σ h => hX5_put ln a0 a1 a2 σ h))
  intro p e s m args below meth c S hT hnw
  refine List.forall_mem_cons.mpr ⟨sw_cokV S hT hnw (mX0_fill hG) 25 0 (by decide) ⟨by decide +kernel, by decide +kernel, by decide +kernel, by decide +kernel, by decide +kernel⟩ ⟨rfl, by decide, by decide, by decide +kernel⟩ ⟨rfl, rfl⟩ ⟨by decide, by decide⟩, ?_⟩
  refine List.forall_mem_cons.mpr ⟨sw_cokV S hT hnw (mX0_chain hG) 29 0 (by decide) ⟨by decide +kernel, by decide +kernel, by decide +kernel, by decide +kernel, by decide +kernel⟩ ⟨rfl, by decide, by decide, by decide +kernel⟩ ⟨rfl, rfl⟩ ⟨by decide, by decide⟩, ?_⟩
  exact fun q h => absurd h List.not_mem_nil
def qu_ow (ln : sw_A) (q : Nat) (σ : sw_S) : Int32 := if σ 5 q 3 ≤ 0 then 0 else ce_wo ln (q / 16) (σ 5 q 1) σ
def gX5_oldestWord (ln : sw_A) (q : Nat) (σ : sw_S) : sw_X := (ce_ok ln (q / 16), some (.inl (qu_ow ln q σ)), σ)
def fX5_oldestWord (ln : sw_A) : sw_F := sw_fo 5 (gX5_oldestWord ln)
def ctX5_oldestWord (ln : sw_A) : sw_C := [(33, 2, 1, fX0_wordIn ln)]
abbrev wX5_oldestWord (ln : sw_A) (Q : Option sw_V → sw_S → Prop) : Nat → Nat → sw_L → List sw_V → sw_S → Prop := sw_wp sw_rf ln (ctX5_oldestWord ln) sX5_oldestWord 1 22 tX5_oldestWord Q
theorem hX5_oldestWord (ln : sw_A) (q : Nat) (σ : sw_S) (h : (gX5_oldestWord ln q σ).1) : ∃ fuel, wX5_oldestWord ln (sw_end (gX5_oldestWord ln q σ)) fuel 0 (sw_ent 1 [.inr (some (5, q))]) [] σ :=
  ⟨20, And.intro (fun (h1 : σ 5 q 3 ≤ 0) => ⟨sw_ri (if_pos h1).symm, rfl⟩) (fun (h1 : ¬ σ 5 q 3 ≤ 0) => And.intro h ⟨sw_ri (if_neg h1).symm, rfl⟩)⟩
set_option maxRecDepth 100000 in
theorem mX5_oldestWord {l : Launch} {ad : sw_A} {V : Nat → Nat → Prop} {ln : sw_A} {ca : Nat → ClassId} {D : va_G} (hG : sw_wf ad V sw_rf ln) : sw_met l ad V sw_rf ln ca D yX5_oldestWord cX5_oldestWord 1 (some .int) { frames := 2, cells := 0, slots := 0, locals := 42 } 1 (fX5_oldestWord ln) := by
  refine sw_meth hG (by decide) (by refine ⟨?_, ?_, ?_, ?_⟩ <;> intro h <;> first | rfl | exact ⟨_, rfl⟩ | exact absurd h (by decide)) (by decide) kX5_oldestWord flX5_in cnX5_in ?_ (sw_fo_h (W := fun Q L σ => ∃ fuel, wX5_oldestWord ln Q fuel 0 L [] σ) (fun a0 σ h => hX5_oldestWord ln a0 σ h))
  intro p e s m args below meth c S hT hnw
  refine List.forall_mem_cons.mpr ⟨sw_cokV S hT hnw (mX0_wordIn hG) 33 0 (by decide) ⟨by decide +kernel, by decide +kernel, by decide +kernel, by decide +kernel, by decide +kernel⟩ ⟨rfl, by decide, by decide, by decide +kernel⟩ ⟨rfl, rfl⟩ ⟨by decide, by decide⟩, ?_⟩
  exact fun q h => absurd h List.not_mem_nil
def qu_om (ln : sw_A) (q : Nat) (σ : sw_S) : Int32 := if σ 5 q 3 ≤ 0 then 0 else if ce_mk ln (q / 16) (σ 5 q 1) σ = 0 then 0 else 1
def gX5_oldestIsMark (ln : sw_A) (q : Nat) (σ : sw_S) : sw_X := (ce_ok ln (q / 16), some (.inl (qu_om ln q σ)), σ)
def fX5_oldestIsMark (ln : sw_A) : sw_F := sw_fo 5 (gX5_oldestIsMark ln)
def ctX5_oldestIsMark (ln : sw_A) : sw_C := [(37, 2, 1, fX0_isMark ln)]
abbrev wX5_oldestIsMark (ln : sw_A) (Q : Option sw_V → sw_S → Prop) : Nat → Nat → sw_L → List sw_V → sw_S → Prop := sw_wp sw_rf ln (ctX5_oldestIsMark ln) sX5_oldestIsMark 2 26 tX5_oldestIsMark Q
theorem hX5_oldestIsMark (ln : sw_A) (q : Nat) (σ : sw_S) (h : (gX5_oldestIsMark ln q σ).1) : ∃ fuel, wX5_oldestIsMark ln (sw_end (gX5_oldestIsMark ln q σ)) fuel 0 (sw_ent 1 [.inr (some (5, q))]) [] σ :=
  ⟨20, And.intro (fun (h1 : σ 5 q 3 ≤ 0) => ⟨Or.inl rfl, sw_ri (if_pos h1).symm, rfl⟩) (fun (h1 : ¬ σ 5 q 3 ≤ 0) => And.intro h (And.intro (fun (h2 : ce_mk ln (q / 16) (σ 5 q 1) σ = 0) => ⟨Or.inl rfl, sw_ri ((if_neg h1).trans (if_pos h2)).symm, rfl⟩) (fun (h2 : ¬ ce_mk ln (q / 16) (σ 5 q 1) σ = 0) => ⟨Or.inr rfl, sw_ri ((if_neg h1).trans (if_neg h2)).symm, rfl⟩)))⟩
set_option maxRecDepth 100000 in
theorem mX5_oldestIsMark {l : Launch} {ad : sw_A} {V : Nat → Nat → Prop} {ln : sw_A} {ca : Nat → ClassId} {D : va_G} (hG : sw_wf ad V sw_rf ln) : sw_met l ad V sw_rf ln ca D yX5_oldestIsMark cX5_oldestIsMark 1 (some .boolean) { frames := 2, cells := 0, slots := 0, locals := 42 } 1 (fX5_oldestIsMark ln) := by
  refine sw_meth hG (by decide) (by refine ⟨?_, ?_, ?_, ?_⟩ <;> intro h <;> first | rfl | exact ⟨_, rfl⟩ | exact absurd h (by decide)) (by decide) kX5_oldestIsMark flX5_in cnX5_in ?_ (sw_fo_h (W := fun Q L σ => ∃ fuel, wX5_oldestIsMark ln Q fuel 0 L [] σ) (fun a0 σ h => hX5_oldestIsMark ln a0 σ h))
  intro p e s m args below meth c S hT hnw
  refine List.forall_mem_cons.mpr ⟨sw_cokV S hT hnw (mX0_isMark hG) 37 0 (by decide) ⟨by decide +kernel, by decide +kernel, by decide +kernel, by decide +kernel, by decide +kernel⟩ ⟨rfl, by decide, by decide, by decide +kernel⟩ ⟨rfl, rfl⟩ ⟨by decide, by decide⟩, ?_⟩
  exact fun q h => absurd h List.not_mem_nil
def qu_da (ln : sw_A) (q : Nat) (σ : sw_S) : sw_S := sw_up (gX0_giveBack ln (q / 16) (σ 5 q 1) σ).2.2 5 q 1 (if ce_ho ln (q / 16) (σ 5 q 1) = 0 then -1 else σ 11 (q / 16) (σ 5 q 1).toNatClampNeg)
def qu_do (ln : sw_A) (q : Nat) (σ : sw_S) : sw_S := if σ 5 q 3 ≤ 0 then σ else sw_up (qu_da ln q σ) 5 q 3 (qu_da ln q σ 5 q 3 - 1)
def gX5_dropOldest (ln : sw_A) (q : Nat) (σ : sw_S) : sw_X := (ce_ok ln (q / 16), none, qu_do ln q σ)
def fX5_dropOldest (ln : sw_A) : sw_F := sw_fo 5 (gX5_dropOldest ln)
def ctX5_dropOldest (ln : sw_A) : sw_C := [(41, 2, 1, fX0_giveBack ln)]
abbrev wX5_dropOldest (ln : sw_A) (Q : Option sw_V → sw_S → Prop) : Nat → Nat → sw_L → List sw_V → sw_S → Prop := sw_wp sw_rf ln (ctX5_dropOldest ln) sX5_dropOldest 0 32 tX5_dropOldest Q
theorem hX5_dropOldest (ln : sw_A) (q : Nat) (σ : sw_S) (h : (gX5_dropOldest ln q σ).1) : ∃ fuel, wX5_dropOldest ln (sw_end (gX5_dropOldest ln q σ)) fuel 0 (sw_ent 1 [.inr (some (5, q))]) [] σ :=
  ⟨30, And.intro (fun (h1 : σ 5 q 3 ≤ 0) => ⟨rfl, (if_pos h1).symm⟩) (fun (h1 : ¬ σ 5 q 3 ≤ 0) => And.intro h ⟨rfl, (if_neg h1).symm⟩)⟩
set_option maxRecDepth 100000 in
theorem mX5_dropOldest {l : Launch} {ad : sw_A} {V : Nat → Nat → Prop} {ln : sw_A} {ca : Nat → ClassId} {D : va_G} (hG : sw_wf ad V sw_rf ln) : sw_met l ad V sw_rf ln ca D yX5_dropOldest cX5_dropOldest 1 none { frames := 2, cells := 0, slots := 0, locals := 43 } 1 (fX5_dropOldest ln) := by
  refine sw_meth hG (by decide) (by refine ⟨?_, ?_, ?_, ?_⟩ <;> intro h <;> first | rfl | exact ⟨_, rfl⟩ | exact absurd h (by decide)) (by decide) kX5_dropOldest flX5_in cnX5_in ?_ (sw_fo_h (W := fun Q L σ => ∃ fuel, wX5_dropOldest ln Q fuel 0 L [] σ) (fun a0 σ h => hX5_dropOldest ln a0 σ h))
  intro p e s m args below meth c S hT hnw
  refine List.forall_mem_cons.mpr ⟨sw_cokV S hT hnw (mX0_giveBack hG) 41 0 (by decide) ⟨by decide +kernel, by decide +kernel, by decide +kernel, by decide +kernel, by decide +kernel⟩ ⟨rfl, by decide, by decide, by decide +kernel⟩ ⟨rfl, rfl⟩ ⟨by decide, by decide⟩, ?_⟩
  exact fun q h => absurd h List.not_mem_nil
