/-! The reference: reading, opening, closing, queueing -/
def ml : Nat → Nat
  | 6 => 16 | 8 => 16 | 9 => 16 | 10 => 16 | 14 => 16 | 15 => 16 | 16 => 16 | 17 => 6400 | 19 => 16 | 20 => 6400 | 22 => 2 | 23 => 30 | 24 => 570 | 25 => 2 | 26 => 40 | 27 => 760 | 28 => 2 | 29 => 2 | 30 => 2 | 31 => 2 | 33 => 2 | 34 => 2 | 35 => 2 | 36 => 2 | 37 => 2 | 38 => 19 | _ => 0
def mz : Nat → Nat
  | 7 => 16 | 11 => 16 | 12 => 16 | 13 => 16 | 18 => 6400 | 21 => 6400 | 32 => 2 | _ => 0
def mo (ln : sw_A) : Prop := (∀ j, ln 15 j = ml j) ∧ ∀ j, ln 16 j = mz j
theorem mo.i {ln : sw_A} (h : mo ln) {x : Int32} {j n : Nat} (hj : ml j = n) (hx : vp_in x n) : vp_in x (ln 15 j) := by rw [h.1, hj]; exact hx
theorem mo.z {ln : sw_A} (h : mo ln) {x : Int32} {j n : Nat} (hj : mz j = n) (hx : vp_in x n) : vp_in x (ln 16 j) := by rw [h.2, hj]; exact hx
abbrev mi (σ : sw_S) (j : Nat) (x : Int32) : Int32 := σ 15 j x.toNatClampNeg
abbrev mb (σ : sw_S) (j : Nat) (x : Int32) : Int32 := σ 16 j x.toNatClampNeg
abbrev mis (σ : sw_S) (j : Nat) (x v : Int32) : sw_S := sw_up σ 15 j x.toNatClampNeg v
abbrev mbs (σ : sw_S) (j : Nat) (x v : Int32) : sw_S := sw_up σ 16 j x.toNatClampNeg v
def mo_is (i : Int32) : Int32 := if i = 0 then 1 else if i = 1 then 1 else 0
def gX8_isSide (ln : sw_A) (i : Int32) (σ : sw_S) : sw_X := (True, some (.inl (mo_is i)), σ)
def fX8_isSide (ln : sw_A) : sw_F := sw_fi (gX8_isSide ln)
def ctX8_isSide (ln : sw_A) : sw_C := []
abbrev wX8_isSide (ln : sw_A) (Q : Option sw_V → sw_S → Prop) : Nat → Nat → sw_L → List sw_V → sw_S → Prop := sw_wp sw_rf ln (ctX8_isSide ln) sX8_isSide 2 14 tX8_isSide Q
theorem hX8_isSide (ln : sw_A) (i : Int32) (σ : sw_S) (h : (gX8_isSide ln i σ).1) : ∃ fuel, wX8_isSide ln (sw_end (gX8_isSide ln i σ)) fuel 0 (sw_ent 1 [.inl i]) [] σ :=
  ⟨10, And.intro (fun (h1 : i = 0) => ⟨Or.inr rfl, sw_ri (if_pos h1).symm, rfl⟩) (fun (h1 : ¬ i = 0) => And.intro (fun (h2 : ¬ i = 1) => ⟨Or.inl rfl, sw_ri ((if_neg h1).trans (if_neg h2)).symm, rfl⟩) (fun (h2 : i = 1) => ⟨Or.inr rfl, sw_ri ((if_neg h1).trans (if_pos h2)).symm, rfl⟩))⟩
set_option maxRecDepth 100000 in
theorem mX8_isSide {l : Launch} {ad : sw_A} {V : Nat → Nat → Prop} {ln : sw_A} {ca : Nat → ClassId} {D : va_G} (hG : sw_wf ad V sw_rf ln) : sw_met l ad V sw_rf ln ca D yX8_isSide cX8_isSide 1 (some .boolean) { frames := 0, cells := 0, slots := 0, locals := 0 } 1 (fX8_isSide ln) := by
  refine sw_meth hG (by decide) (by refine ⟨?_, ?_, ?_, ?_⟩ <;> intro h <;> first | rfl | exact ⟨_, rfl⟩ | exact absurd h (by decide)) (by decide) kX8_isSide flX8_in cnX8_in ?_ (sw_fi_h (W := fun Q L σ => ∃ fuel, wX8_isSide ln Q fuel 0 L [] σ) (fun a0 σ h => hX8_isSide ln a0 σ h))
  intro p e s m args below meth c S hT hnw
  exact fun q h => absurd h List.not_mem_nil
def mo_st (k : Nat) (i t : Int32) (σ : sw_S) : Int32 := if mo_is i = 0 then 0 else if t < 0 then 0 else if σ 8 k 0 ≤ t then 0 else 1
def gX8_isStream (ln : sw_A) (k : Nat) (i t : Int32) (σ : sw_S) : sw_X := (True, some (.inl (mo_st k i t σ)), σ)
def fX8_isStream (ln : sw_A) : sw_F := sw_foii 8 (gX8_isStream ln)
def ctX8_isStream (ln : sw_A) : sw_C := [(133, 1, 0, fX8_isSide ln)]
abbrev wX8_isStream (ln : sw_A) (Q : Option sw_V → sw_S → Prop) : Nat → Nat → sw_L → List sw_V → sw_S → Prop := sw_wp sw_rf ln (ctX8_isStream ln) sX8_isStream 2 24 tX8_isStream Q
theorem hX8_isStream (ln : sw_A) (k : Nat) (i t : Int32) (σ : sw_S) (h : (gX8_isStream ln k i t σ).1) : ∃ fuel, wX8_isStream ln (sw_end (gX8_isStream ln k i t σ)) fuel 0 (sw_ent 3 [.inr (some (8, k)), .inl i, .inl t]) [] σ :=
  ⟨20, And.intro trivial (And.intro (fun (h1 : mo_is i = 0) => ⟨Or.inl rfl, sw_ri (if_pos h1).symm, rfl⟩) (fun (h1 : ¬ mo_is i = 0) => And.intro (fun (h2 : t < 0) => ⟨Or.inl rfl, sw_ri ((if_neg h1).trans (if_pos h2)).symm, rfl⟩) (fun (h2 : ¬ t < 0) => And.intro (fun (h3 : σ 8 k 0 ≤ t) => ⟨Or.inl rfl, sw_ri ((if_neg h1).trans ((if_neg h2).trans (if_pos h3))).symm, rfl⟩) (fun (h3 : ¬ σ 8 k 0 ≤ t) => ⟨Or.inr rfl, sw_ri ((if_neg h1).trans ((if_neg h2).trans (if_neg h3))).symm, rfl⟩))))⟩
set_option maxRecDepth 100000 in
theorem mX8_isStream {l : Launch} {ad : sw_A} {V : Nat → Nat → Prop} {ln : sw_A} {ca : Nat → ClassId} {D : va_G} (hG : sw_wf ad V sw_rf ln) : sw_met l ad V sw_rf ln ca D yX8_isStream cX8_isStream 3 (some .boolean) { frames := 1, cells := 0, slots := 0, locals := 20 } 3 (fX8_isStream ln) := by
  refine sw_meth hG (by decide) (by refine ⟨?_, ?_, ?_, ?_⟩ <;> intro h <;> first | rfl | exact ⟨_, rfl⟩ | exact absurd h (by decide)) (by decide) kX8_isStream flX8_in cnX8_in ?_ (sw_foii_h (W := fun Q L σ => ∃ fuel, wX8_isStream ln Q fuel 0 L [] σ) (fun a0 a1 a2 σ h => hX8_isStream ln a0 a1 a2 σ h))
  intro p e s m args below meth c S hT hnw
  refine List.forall_mem_cons.mpr ⟨sw_cokS S hT hnw (mX8_isSide hG) 133 ⟨by decide +kernel, by decide +kernel, by decide +kernel, by decide +kernel⟩ ⟨rfl, by decide, by decide, by decide +kernel⟩ ⟨rfl, rfl⟩ ⟨by decide, by decide⟩, ?_⟩
  exact fun q h => absurd h List.not_mem_nil
def mo_ix (i t : Int32) : Int32 := 8 * i + t
/-- the sides and streams that are: an index of the rows of 16 -/
def mo_pt (k : Nat) (i t : Int32) (σ : sw_S) : Prop := ¬ mo_st k i t σ = 0 → vp_in (mo_ix i t) 16 ∧ vp_in i 2
def mo_be (k : Nat) (x : Int32) (σ : sw_S) : sw_S := mis (mis σ 6 x 1) 8 x (mis σ 6 x 1 8 k 5)
def gX8_begin (ln : sw_A) (k : Nat) (x : Int32) (σ : sw_S) : sw_X := (mo ln ∧ vp_in x 16, none, mo_be k x σ)
def fX8_begin (ln : sw_A) : sw_F := sw_foi 8 (gX8_begin ln)
def ctX8_begin (ln : sw_A) : sw_C := []
abbrev wX8_begin (ln : sw_A) (Q : Option sw_V → sw_S → Prop) : Nat → Nat → sw_L → List sw_V → sw_S → Prop := sw_wp sw_rf ln (ctX8_begin ln) sX8_begin 0 17 tX8_begin Q
theorem hX8_begin (ln : sw_A) (k : Nat) (x : Int32) (σ : sw_S) (h : (gX8_begin ln k x σ).1) : ∃ fuel, wX8_begin ln (sw_end (gX8_begin ln k x σ)) fuel 0 (sw_ent 2 [.inr (some (8, k)), .inl x]) [] σ :=
  ⟨20, And.intro (h.1.i (j := 6) rfl h.2) (And.intro (h.1.i (j := 8) rfl h.2) ⟨rfl, rfl⟩)⟩
set_option maxRecDepth 100000 in
theorem mX8_begin {l : Launch} {ad : sw_A} {V : Nat → Nat → Prop} {ln : sw_A} {ca : Nat → ClassId} {D : va_G} (hG : sw_wf ad V sw_rf ln) : sw_met l ad V sw_rf ln ca D yX8_begin cX8_begin 2 none { frames := 0, cells := 0, slots := 0, locals := 0 } 2 (fX8_begin ln) := by
  refine sw_meth hG (by decide) (by refine ⟨?_, ?_, ?_, ?_⟩ <;> intro h <;> first | rfl | exact ⟨_, rfl⟩ | exact absurd h (by decide)) (by decide) kX8_begin flX8_in cnX8_in ?_ (sw_foi_h (W := fun Q L σ => ∃ fuel, wX8_begin ln Q fuel 0 L [] σ) (fun a0 a1 σ h => hX8_begin ln a0 a1 σ h))
  intro p e s m args below meth c S hT hnw
  exact fun q h => absurd h List.not_mem_nil
def mo_op (k : Nat) (i t : Int32) (σ : sw_S) : wi_P := if mo_st k i t σ = 0 then (-1, σ) else if mi σ 6 (mo_ix i t) = 0 then (1, mbs (mo_be k (mo_ix i t) σ) 11 (mo_ix i t) 1) else (0, σ)
def gX8_open (ln : sw_A) (k : Nat) (i t : Int32) (σ : sw_S) : sw_X := (mo ln ∧ mo_pt k i t σ, some (.inl (mo_op k i t σ).1), (mo_op k i t σ).2)
def fX8_open (ln : sw_A) : sw_F := sw_foii 8 (gX8_open ln)
def ctX8_open (ln : sw_A) : sw_C := [(137, 3, 9, fX8_isStream ln), (141, 2, 9, fX8_begin ln)]
abbrev wX8_open (ln : sw_A) (Q : Option sw_V → sw_S → Prop) : Nat → Nat → sw_L → List sw_V → sw_S → Prop := sw_wp sw_rf ln (ctX8_open ln) sX8_open 1 42 tX8_open Q
theorem hX8_open (ln : sw_A) (k : Nat) (i t : Int32) (σ : sw_S) (h : (gX8_open ln k i t σ).1) : ∃ fuel, wX8_open ln (sw_end (gX8_open ln k i t σ)) fuel 0 (sw_ent 4 [.inr (some (8, k)), .inl i, .inl t]) [] σ := by
  obtain ⟨hm, hp⟩ := h
  refine ⟨40, And.intro trivial (And.intro (fun (h1 : ¬ mo_st k i t σ = 0) => ?_) (fun (h1 : mo_st k i t σ = 0) => sw_pe (if_pos h1)))⟩
  have hx := (hp h1).1
  exact And.intro (hm.i (j := 6) rfl hx) (And.intro (fun (h2 : mi σ 6 (mo_ix i t) = 0) => And.intro ⟨hm, hx⟩ (And.intro (hm.z (j := 11) rfl hx) (And.intro (Or.inr rfl) (sw_pe ((if_neg h1).trans (if_pos h2)))))) (fun (h2 : ¬ mi σ 6 (mo_ix i t) = 0) => sw_pe ((if_neg h1).trans (if_neg h2))))
set_option maxRecDepth 100000 in
theorem mX8_open {l : Launch} {ad : sw_A} {V : Nat → Nat → Prop} {ln : sw_A} {ca : Nat → ClassId} {D : va_G} (hG : sw_wf ad V sw_rf ln) : sw_met l ad V sw_rf ln ca D yX8_open cX8_open 4 (some .int) { frames := 2, cells := 0, slots := 0, locals := 42 } 3 (fX8_open ln) := by
  refine sw_meth hG (by decide) (by refine ⟨?_, ?_, ?_, ?_⟩ <;> intro h <;> first | rfl | exact ⟨_, rfl⟩ | exact absurd h (by decide)) (by decide) kX8_open flX8_in cnX8_in ?_ (sw_foii_h (W := fun Q L σ => ∃ fuel, wX8_open ln Q fuel 0 L [] σ) (fun a0 a1 a2 σ h => hX8_open ln a0 a1 a2 σ h))
  intro p e s m args below meth c S hT hnw
  refine List.forall_mem_cons.mpr ⟨sw_cokV S hT hnw (mX8_isStream hG) 137 8 (by decide) ⟨by decide +kernel, by decide +kernel, by decide +kernel, by decide +kernel, by decide +kernel⟩ ⟨rfl, by decide, by decide, by decide +kernel⟩ ⟨rfl, rfl⟩ ⟨by decide, by decide⟩, ?_⟩
  refine List.forall_mem_cons.mpr ⟨sw_cokV S hT hnw (mX8_begin hG) 141 8 (by decide) ⟨by decide +kernel, by decide +kernel, by decide +kernel, by decide +kernel, by decide +kernel⟩ ⟨rfl, by decide, by decide, by decide +kernel⟩ ⟨rfl, rfl⟩ ⟨by decide, by decide⟩, ?_⟩
  exact fun q h => absurd h List.not_mem_nil
def mo_cl (k : Nat) (i t : Int32) (σ : sw_S) : wi_P := if mo_st k i t σ = 0 then (-1, σ) else if mi σ 6 (mo_ix i t) = 1 then (1, mbs (mis σ 6 (mo_ix i t) 2) 12 (mo_ix i t) 1) else (0, σ)
def gX8_close (ln : sw_A) (k : Nat) (i t : Int32) (σ : sw_S) : sw_X := (mo ln ∧ mo_pt k i t σ, some (.inl (mo_cl k i t σ).1), (mo_cl k i t σ).2)
def fX8_close (ln : sw_A) : sw_F := sw_foii 8 (gX8_close ln)
def ctX8_close (ln : sw_A) : sw_C := [(137, 3, 9, fX8_isStream ln)]
abbrev wX8_close (ln : sw_A) (Q : Option sw_V → sw_S → Prop) : Nat → Nat → sw_L → List sw_V → sw_S → Prop := sw_wp sw_rf ln (ctX8_close ln) sX8_close 1 45 tX8_close Q
theorem hX8_close (ln : sw_A) (k : Nat) (i t : Int32) (σ : sw_S) (h : (gX8_close ln k i t σ).1) : ∃ fuel, wX8_close ln (sw_end (gX8_close ln k i t σ)) fuel 0 (sw_ent 4 [.inr (some (8, k)), .inl i, .inl t]) [] σ := by
  obtain ⟨hm, hp⟩ := h
  refine ⟨40, And.intro trivial (And.intro (fun (h1 : ¬ mo_st k i t σ = 0) => ?_) (fun (h1 : mo_st k i t σ = 0) => sw_pe (if_pos h1)))⟩
  have hx := (hp h1).1
  exact And.intro (hm.i (j := 6) rfl hx) (And.intro (fun (h2 : mi σ 6 (mo_ix i t) = 1) => And.intro (hm.i (j := 6) rfl hx) (And.intro (hm.z (j := 12) rfl hx) (And.intro (Or.inr rfl) (sw_pe ((if_neg h1).trans (if_pos h2)))))) (fun (h2 : ¬ mi σ 6 (mo_ix i t) = 1) => sw_pe ((if_neg h1).trans (if_neg h2))))
set_option maxRecDepth 100000 in
theorem mX8_close {l : Launch} {ad : sw_A} {V : Nat → Nat → Prop} {ln : sw_A} {ca : Nat → ClassId} {D : va_G} (hG : sw_wf ad V sw_rf ln) : sw_met l ad V sw_rf ln ca D yX8_close cX8_close 4 (some .int) { frames := 2, cells := 0, slots := 0, locals := 42 } 3 (fX8_close ln) := by
  refine sw_meth hG (by decide) (by refine ⟨?_, ?_, ?_, ?_⟩ <;> intro h <;> first | rfl | exact ⟨_, rfl⟩ | exact absurd h (by decide)) (by decide) kX8_close flX8_in cnX8_in ?_ (sw_foii_h (W := fun Q L σ => ∃ fuel, wX8_close ln Q fuel 0 L [] σ) (fun a0 a1 a2 σ h => hX8_close ln a0 a1 a2 σ h))
  intro p e s m args below meth c S hT hnw
  refine List.forall_mem_cons.mpr ⟨sw_cokV S hT hnw (mX8_isStream hG) 137 8 (by decide) ⟨by decide +kernel, by decide +kernel, by decide +kernel, by decide +kernel, by decide +kernel⟩ ⟨rfl, by decide, by decide, by decide +kernel⟩ ⟨rfl, rfl⟩ ⟨by decide, by decide⟩, ?_⟩
  exact fun q h => absurd h List.not_mem_nil
def mo_wo (i : Int32) (σ : sw_S) : Int32 := if mo_is i = 0 then 0 else mi σ 37 i
def gX8_word (ln : sw_A) (k : Nat) (i : Int32) (σ : sw_S) : sw_X := (mo ln ∧ (¬ mo_is i = 0 → vp_in i 2), some (.inl (mo_wo i σ)), σ)
def fX8_word (ln : sw_A) : sw_F := sw_foi 8 (gX8_word ln)
def ctX8_word (ln : sw_A) : sw_C := [(133, 1, 0, fX8_isSide ln)]
abbrev wX8_word (ln : sw_A) (Q : Option sw_V → sw_S → Prop) : Nat → Nat → sw_L → List sw_V → sw_S → Prop := sw_wp sw_rf ln (ctX8_word ln) sX8_word 1 17 tX8_word Q
theorem hX8_word (ln : sw_A) (k : Nat) (i : Int32) (σ : sw_S) (h : (gX8_word ln k i σ).1) : ∃ fuel, wX8_word ln (sw_end (gX8_word ln k i σ)) fuel 0 (sw_ent 2 [.inr (some (8, k)), .inl i]) [] σ :=
  ⟨20, And.intro trivial (And.intro (fun (h1 : mo_is i = 0) => ⟨sw_ri (if_pos h1).symm, rfl⟩) (fun (h1 : ¬ mo_is i = 0) => And.intro (h.1.i (j := 37) rfl (h.2 h1)) ⟨sw_ri (if_neg h1).symm, rfl⟩))⟩
set_option maxRecDepth 100000 in
theorem mX8_word {l : Launch} {ad : sw_A} {V : Nat → Nat → Prop} {ln : sw_A} {ca : Nat → ClassId} {D : va_G} (hG : sw_wf ad V sw_rf ln) : sw_met l ad V sw_rf ln ca D yX8_word cX8_word 2 (some .int) { frames := 1, cells := 0, slots := 0, locals := 20 } 2 (fX8_word ln) := by
  refine sw_meth hG (by decide) (by refine ⟨?_, ?_, ?_, ?_⟩ <;> intro h <;> first | rfl | exact ⟨_, rfl⟩ | exact absurd h (by decide)) (by decide) kX8_word flX8_in cnX8_in ?_ (sw_foi_h (W := fun Q L σ => ∃ fuel, wX8_word ln Q fuel 0 L [] σ) (fun a0 a1 σ h => hX8_word ln a0 a1 σ h))
  intro p e s m args below meth c S hT hnw
  refine List.forall_mem_cons.mpr ⟨sw_cokS S hT hnw (mX8_isSide hG) 133 ⟨by decide +kernel, by decide +kernel, by decide +kernel, by decide +kernel⟩ ⟨rfl, by decide, by decide, by decide +kernel⟩ ⟨rfl, rfl⟩ ⟨by decide, by decide⟩, ?_⟩
  exact fun q h => absurd h List.not_mem_nil
def mo_we (k : Nat) (i t w : Int32) (σ : sw_S) : wi_P := if mo_st k i t σ = 0 then (-1, σ) else if w < 1 then (-1, σ) else if w ≤ 4 then (mi σ 10 (mo_ix i t), mis σ 10 (mo_ix i t) w) else (-1, σ)
def gX8_weight (ln : sw_A) (k : Nat) (i t w : Int32) (σ : sw_S) : sw_X := (mo ln ∧ mo_pt k i t σ, some (.inl (mo_we k i t w σ).1), (mo_we k i t w σ).2)
def fX8_weight (ln : sw_A) : sw_F := sw_foiii 8 (gX8_weight ln)
def ctX8_weight (ln : sw_A) : sw_C := [(137, 3, 9, fX8_isStream ln)]
abbrev wX8_weight (ln : sw_A) (Q : Option sw_V → sw_S → Prop) : Nat → Nat → sw_L → List sw_V → sw_S → Prop := sw_wp sw_rf ln (ctX8_weight ln) sX8_weight 1 48 tX8_weight Q
theorem hX8_weight (ln : sw_A) (k : Nat) (i t w : Int32) (σ : sw_S) (h : (gX8_weight ln k i t w σ).1) : ∃ fuel, wX8_weight ln (sw_end (gX8_weight ln k i t w σ)) fuel 0 (sw_ent 5 [.inr (some (8, k)), .inl i, .inl t, .inl w]) [] σ := by
  obtain ⟨hm, hp⟩ := h
  refine ⟨40, And.intro trivial (And.intro (fun (h1 : mo_st k i t σ = 0) => sw_pe (if_pos h1)) (fun (h1 : ¬ mo_st k i t σ = 0) => ?_))⟩
  have hx := (hp h1).1
  exact And.intro (fun (a1 : w < 1) => sw_pe ((if_neg h1).trans (if_pos a1))) (fun (a1 : ¬ w < 1) => And.intro (fun (a2 : w ≤ 4) => And.intro (hm.i (j := 10) rfl hx) (And.intro (hm.i (j := 10) rfl hx) (sw_pe ((if_neg h1).trans ((if_neg a1).trans (if_pos a2)))))) (fun (a2 : ¬ w ≤ 4) => sw_pe ((if_neg h1).trans ((if_neg a1).trans (if_neg a2)))))
set_option maxRecDepth 100000 in
theorem mX8_weight {l : Launch} {ad : sw_A} {V : Nat → Nat → Prop} {ln : sw_A} {ca : Nat → ClassId} {D : va_G} (hG : sw_wf ad V sw_rf ln) : sw_met l ad V sw_rf ln ca D yX8_weight cX8_weight 5 (some .int) { frames := 2, cells := 0, slots := 0, locals := 42 } 4 (fX8_weight ln) := by
  refine sw_meth hG (by decide) (by refine ⟨?_, ?_, ?_, ?_⟩ <;> intro h <;> first | rfl | exact ⟨_, rfl⟩ | exact absurd h (by decide)) (by decide) kX8_weight flX8_in cnX8_in ?_ (sw_foiii_h (W := fun Q L σ => ∃ fuel, wX8_weight ln Q fuel 0 L [] σ) (fun a0 a1 a2 a3 σ h => hX8_weight ln a0 a1 a2 a3 σ h))
  intro p e s m args below meth c S hT hnw
  refine List.forall_mem_cons.mpr ⟨sw_cokV S hT hnw (mX8_isStream hG) 137 8 (by decide) ⟨by decide +kernel, by decide +kernel, by decide +kernel, by decide +kernel, by decide +kernel⟩ ⟨rfl, by decide, by decide, by decide +kernel⟩ ⟨rfl, rfl⟩ ⟨by decide, by decide⟩, ?_⟩
  exact fun q h => absurd h List.not_mem_nil
def mo_f1 (k : Nat) (i : Int32) (σ : sw_S) : Nat → Int32
  | 0 => σ 8 k 3
  | n + 1 => if mi σ 6 (mo_ix i (nI n)) = 0 then mo_f1 k i σ n - (0 + mi σ 16 (mo_ix i (nI n))) else mo_f1 k i σ n - (σ 8 k 5 + mi σ 16 (mo_ix i (nI n)))
def mo_ow (i : Int32) (n : Nat) : Int32 := 19 * (15 * i + nI n)
def mo_f2 (i : Int32) (σ : sw_S) (a : Int32) : Nat → Int32
  | 0 => a
  | n + 1 => if mi σ 24 (mo_ow i n) &&& 7 = 1 then mo_f2 i σ a n - sw_ushr (mi σ 24 (mo_ow i n)) 24 else mo_f2 i σ a n - 0
def mo_fx (k : Nat) (i : Int32) (σ : sw_S) : Int32 := mo_f2 i σ (mo_f1 k i σ (σ 8 k 0).toNatClampNeg) (mi σ 22 i).toNatClampNeg
def mo_fr (k : Nat) (i : Int32) (σ : sw_S) : Int32 := if mo_fx k i σ ≤ 0 then 0 else mo_fx k i σ
def mo_fp (k : Nat) (i : Int32) (σ : sw_S) : Prop := vp_in i 2 ∧ 0 ≤ σ 8 k 0 ∧ 0 ≤ mi σ 22 i ∧ (∀ n, n < (σ 8 k 0).toNatClampNeg → vp_in (mo_ix i (nI n)) 16) ∧ ∀ n, n < (mi σ 22 i).toNatClampNeg → vp_in (mo_ow i n) 570
def gX8_free (ln : sw_A) (k : Nat) (i : Int32) (σ : sw_S) : sw_X := (mo ln ∧ mo_fp k i σ, some (.inl (mo_fr k i σ)), σ)
def fX8_free (ln : sw_A) : sw_F := sw_foi 8 (gX8_free ln)
def ctX8_free (ln : sw_A) : sw_C := []
abbrev wX8_free (ln : sw_A) (Q : Option sw_V → sw_S → Prop) : Nat → Nat → sw_L → List sw_V → sw_S → Prop := sw_wp sw_rf ln (ctX8_free ln) sX8_free 1 122 tX8_free Q
theorem hX8_free_2 (ln : sw_A) (k n : Nat) (i a : Int32) (σ : sw_S) (X : sw_X) (hm : mo ln) (hi : vp_in i 2) (hn : n < 2 ^ 31) (hz : mi σ 22 i = nI n) (hb : ∀ j, j < n → vp_in (mo_ow i j) 570) (hX : X.2 = (some (.inl (if mo_f2 i σ a n ≤ 0 then 0 else mo_f2 i σ a n)), σ)) : ∀ (d j : Nat) (x4 : Option sw_V), j + d = n → ∃ fuel, wX8_free ln (sw_end X) fuel 60 [some (.inr (some (8, k))), some (.inl i), some (.inl (mo_f2 i σ a j)), some (.inl (nI j)), x4] [] σ := by
  intro d
  have h22 := hm.i (j := 22) rfl hi
  induction d with
  | zero =>
    intro j x4 hj
    have hj : j = n := by omega
    subst hj
    refine ⟨20, And.intro h22 (And.intro (fun _ => And.intro (fun (h1 : mo_f2 i σ a j ≤ 0) => ?_) (fun (h1 : ¬ mo_f2 i σ a j ≤ 0) => ?_)) (fun (h : ¬ mi σ 22 i ≤ nI j) => absurd (by rw [hz]; exact Int32.le_refl _) h))⟩
    · show some _ = X.2.1 ∧ σ = X.2.2
      rw [hX, if_pos h1]
      exact ⟨rfl, rfl⟩
    · show some _ = X.2.1 ∧ σ = X.2.2
      rw [hX, if_neg h1]
      exact ⟨rfl, rfl⟩
  | succ d ih =>
    intro j x4 hj
    obtain ⟨f, hf⟩ := ih (j + 1) (some (.inl (mi σ 24 (mo_ow i j)))) (by omega)
    rw [← nI_1] at hf
    refine ⟨f + 60, sw_ws_wp [60] f 60 _ _ _ _ ?_⟩
    refine And.intro h22 (And.intro (fun (h : mi σ 22 i ≤ nI j) => absurd (by rw [← hz]; exact h) (nI_ge (a := j) (b := n) (by omega) hn)) (fun _ => And.intro (hm.i (j := 24) rfl (hb j (by omega))) (And.intro (fun (h1 : ¬ mi σ 24 (mo_ow i j) &&& 7 = 1) => ?_) (fun (h1 : mi σ 24 (mo_ow i j) &&& 7 = 1) => ?_))))
    · rw [show mo_f2 i σ a (j + 1) = _ from if_neg h1] at hf
      exact hf
    · rw [show mo_f2 i σ a (j + 1) = _ from if_pos h1] at hf
      exact hf
theorem hX8_free_1 (ln : sw_A) (k n : Nat) (i : Int32) (σ : sw_S) (X : sw_X) (hm : mo ln) (hn : n < 2 ^ 31) (hz : σ 8 k 0 = nI n) (hb : ∀ j, j < n → vp_in (mo_ix i (nI j)) 16) (M : Nat) (hM : wX8_free ln (sw_end X) M 58 [some (.inr (some (8, k))), some (.inl i), some (.inl (mo_f1 k i σ n)), some (.inl (nI n)), none] [] σ) : ∀ (d j : Nat), j + d = n → ∃ fuel, wX8_free ln (sw_end X) fuel 7 [some (.inr (some (8, k))), some (.inl i), some (.inl (mo_f1 k i σ j)), some (.inl (nI j)), none] [] σ := by
  intro d
  induction d with
  | zero =>
    intro j hj
    have hj : j = n := by omega
    subst hj
    refine ⟨M + 20, sw_ws_wp [58] M 20 _ _ _ _ ?_⟩
    exact And.intro (fun _ => hM) (fun (h : ¬ σ 8 k 0 ≤ nI j) => absurd (by rw [hz]; exact Int32.le_refl _) h)
  | succ d ih =>
    intro j hj
    have v1 := hm.i (j := 6) rfl (hb j (by omega))
    have v2 := hm.i (j := 16) rfl (hb j (by omega))
    obtain ⟨f, hf⟩ := ih (j + 1) (by omega)
    rw [← nI_1] at hf
    refine ⟨f + 60, sw_ws_wp [7] f 60 _ _ _ _ ?_⟩
    refine And.intro (fun (h : σ 8 k 0 ≤ nI j) => absurd (by rw [← hz]; exact h) (nI_ge (a := j) (b := n) (by omega) hn)) (fun _ => And.intro v1 (And.intro (fun (h1 : ¬ mi σ 6 (mo_ix i (nI j)) = 0) => And.intro v2 ?_) (fun (h1 : mi σ 6 (mo_ix i (nI j)) = 0) => And.intro v2 ?_)))
    · rw [show mo_f1 k i σ (j + 1) = _ from if_neg h1] at hf
      exact hf
    · rw [show mo_f1 k i σ (j + 1) = _ from if_pos h1] at hf
      exact hf
theorem hX8_free (ln : sw_A) (k : Nat) (i : Int32) (σ : sw_S) (h : (gX8_free ln k i σ).1) : ∃ fuel, wX8_free ln (sw_end (gX8_free ln k i σ)) fuel 0 (sw_ent 5 [.inr (some (8, k)), .inl i]) [] σ := by
  obtain ⟨hm, hi, h0, h1, h2, h3⟩ := h
  obtain ⟨n, hn, hz⟩ := nI_of (Int32.not_lt.mpr h0)
  obtain ⟨q, hq, hy⟩ := nI_of (Int32.not_lt.mpr h1)
  rw [hz, nI_clamp hn] at h2
  rw [hy, nI_clamp hq] at h3
  obtain ⟨M, hM⟩ := hX8_free_2 ln k q i (mo_f1 k i σ n) σ (gX8_free ln k i σ) hm hi hq hy h3 (by
    show (some (Sum.inl (mo_fr k i σ)), σ) = _
    unfold mo_fr mo_fx
    rw [hz, nI_clamp hn, hy, nI_clamp hq]) q 0 none (by omega)
  obtain ⟨f, hf⟩ := hX8_free_1 ln k n i σ (gX8_free ln k i σ) hm hn hz h2 (M + 10) (sw_ws_wp [60] M 10 _ _ _ _ hM) n 0 (by omega)
  exact ⟨f + 10, sw_ws_wp [7] f 10 _ _ _ _ hf⟩
set_option maxRecDepth 100000 in
theorem mX8_free {l : Launch} {ad : sw_A} {V : Nat → Nat → Prop} {ln : sw_A} {ca : Nat → ClassId} {D : va_G} (hG : sw_wf ad V sw_rf ln) : sw_met l ad V sw_rf ln ca D yX8_free cX8_free 5 (some .int) { frames := 0, cells := 0, slots := 0, locals := 0 } 2 (fX8_free ln) := by
  refine sw_meth hG (by decide) (by refine ⟨?_, ?_, ?_, ?_⟩ <;> intro h <;> first | rfl | exact ⟨_, rfl⟩ | exact absurd h (by decide)) (by decide) kX8_free flX8_in cnX8_in ?_ (sw_foi_h (W := fun Q L σ => ∃ fuel, wX8_free ln Q fuel 0 L [] σ) (fun a0 a1 σ h => hX8_free ln a0 a1 σ h))
  intro p e s m args below meth c S hT hnw
  exact fun q h => absurd h List.not_mem_nil
