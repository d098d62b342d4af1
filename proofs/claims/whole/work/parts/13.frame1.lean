/-! Frame: its small methods -/
/-- word i of frame k, as wordAt tells it -/
def fr_at (σ : sw_S) (k : Nat) (i : Int32) : Int32 := if 0 ≤ i ∧ i < σ 2 k 1 then σ 12 k i.toNatClampNeg else 0
theorem sw_ri {x y : Int32} (h : x = y) : some (Sum.inl x : sw_V) = some (Sum.inl y) := by rw [h]
theorem vp_in_lt {i n : Int32} {c : Nat} (h0 : ¬ i < 0) (h1 : i < n) (h2 : n ≤ nI c) (hc : c < 2 ^ 31) : vp_in i c := by
  rw [vp_in_iff]
  rw [Int32.lt_iff_toInt_lt] at h0 h1
  rw [Int32.le_iff_toInt_le, nI_toInt hc] at h2
  rw [Int32.toInt_zero] at h0
  omega
/-- a frame's length fits its row -/
def fr_ok (ln : sw_A) (k : Nat) (σ : sw_S) : Prop := σ 2 k 1 ≤ nI (ln 12 k) ∧ ln 12 k < 2 ^ 31
def gX2_wordAt (ln : sw_A) (k : Nat) (i : Int32) (σ : sw_S) : sw_X := (fr_ok ln k σ, some (.inl (fr_at σ k i)), σ)
def fX2_wordAt (ln : sw_A) : sw_F := sw_foi 2 (gX2_wordAt ln)
def ctX2_wordAt (ln : sw_A) : sw_C := []
abbrev wX2_wordAt (ln : sw_A) (Q : Option sw_V → sw_S → Prop) : Nat → Nat → sw_L → List sw_V → sw_S → Prop := sw_wp sw_rf ln (ctX2_wordAt ln) sX2_wordAt 1 22 tX2_wordAt Q
theorem hX2_wordAt (ln : sw_A) (k : Nat) (i : Int32) (σ : sw_S) (h : (gX2_wordAt ln k i σ).1) : ∃ fuel, wX2_wordAt ln (sw_end (gX2_wordAt ln k i σ)) fuel 0 (sw_ent 2 [.inr (some (2, k)), .inl i]) [] σ := by
  refine ⟨20, ?_⟩
  refine And.intro (fun h1 => ?_) (fun h1 => ?_)
  · exact ⟨sw_ri (if_neg (fun z => absurd h1 (Int32.not_lt.mpr z.1))).symm, rfl⟩
  · refine And.intro (fun h2 => ?_) (fun h2 => ?_)
    · exact ⟨sw_ri (if_neg (fun z => absurd z.2 (Int32.not_lt.mpr h2))).symm, rfl⟩
    · refine And.intro (vp_in_lt h1 (Int32.not_le.mp h2) h.1 h.2) ?_
      exact ⟨sw_ri (if_pos ⟨Int32.not_lt.mp h1, Int32.not_le.mp h2⟩).symm, rfl⟩
set_option maxRecDepth 100000 in
theorem mX2_wordAt {l : Launch} {ad : sw_A} {V : Nat → Nat → Prop} {ln : sw_A} {ca : Nat → ClassId} {D : va_G} (hG : sw_wf ad V sw_rf ln) : sw_met l ad V sw_rf ln ca D yX2_wordAt cX2_wordAt 2 (some .int) { frames := 0, cells := 0, slots := 0, locals := 0 } 2 (fX2_wordAt ln) := by
  refine sw_meth hG (by decide) (by refine ⟨?_, ?_, ?_, ?_⟩ <;> intro h <;> first | rfl | exact ⟨_, rfl⟩ | exact absurd h (by decide)) (by decide) kX2_wordAt flX2_in cnX2_in ?_ (sw_foi_h (W := fun Q L σ => ∃ fuel, wX2_wordAt ln Q fuel 0 L [] σ) (fun a0 a1 σ h => hX2_wordAt ln a0 a1 σ h))
  intro p e s m args below meth c S hT hnw
  exact fun q h => absurd h List.not_mem_nil
def gX2_put (ln : sw_A) (k : Nat) (x : Int32) (σ : sw_S) : sw_X := (0 ≤ σ 2 k 1 ∧ ln 12 k < 2 ^ 31, none, if σ 2 k 1 < nI (ln 12 k) then sw_up (sw_up σ 12 k (σ 2 k 1).toNatClampNeg x) 2 k 1 (σ 2 k 1 + 1) else σ)
def fX2_put (ln : sw_A) : sw_F := sw_foi 2 (gX2_put ln)
def ctX2_put (ln : sw_A) : sw_C := []
abbrev wX2_put (ln : sw_A) (Q : Option sw_V → sw_S → Prop) : Nat → Nat → sw_L → List sw_V → sw_S → Prop := sw_wp sw_rf ln (ctX2_put ln) sX2_put 0 32 tX2_put Q
theorem hX2_put (ln : sw_A) (k : Nat) (x : Int32) (σ : sw_S) (h : (gX2_put ln k x σ).1) : ∃ fuel, wX2_put ln (sw_end (gX2_put ln k x σ)) fuel 0 (sw_ent 2 [.inr (some (2, k)), .inl x]) [] σ := by
  refine ⟨30, ?_⟩
  refine And.intro (fun h1 => ?_) (fun h1 => ?_)
  · refine ⟨rfl, ?_⟩
    exact (if_neg (Int32.not_lt.mpr h1)).symm
  · have h2 := Int32.not_le.mp h1
    refine And.intro ?_ ?_
    · exact vp_in_lt (Int32.not_lt.mpr h.1) h2 (Int32.le_refl _) h.2
    · refine ⟨rfl, ?_⟩
      exact (if_pos h2).symm
set_option maxRecDepth 100000 in
theorem mX2_put {l : Launch} {ad : sw_A} {V : Nat → Nat → Prop} {ln : sw_A} {ca : Nat → ClassId} {D : va_G} (hG : sw_wf ad V sw_rf ln) : sw_met l ad V sw_rf ln ca D yX2_put cX2_put 2 none { frames := 0, cells := 0, slots := 0, locals := 0 } 2 (fX2_put ln) := by
  refine sw_meth hG (by decide) (by refine ⟨?_, ?_, ?_, ?_⟩ <;> intro h <;> first | rfl | exact ⟨_, rfl⟩ | exact absurd h (by decide)) (by decide) kX2_put flX2_in cnX2_in ?_ (sw_foi_h (W := fun Q L σ => ∃ fuel, wX2_put ln Q fuel 0 L [] σ) (fun a0 a1 σ h => hX2_put ln a0 a1 σ h))
  intro p e s m args below meth c S hT hnw
  exact fun q h => absurd h List.not_mem_nil
def gX2_begin (ln : sw_A) (k : Nat) (x : Int32) (σ : sw_S) : sw_X := gX2_put ln k x (sw_up σ 2 k 1 0)
def fX2_begin (ln : sw_A) : sw_F := sw_foi 2 (gX2_begin ln)
def ctX2_begin (ln : sw_A) : sw_C := [(25, 2, 3, fX2_put ln)]
abbrev wX2_begin (ln : sw_A) (Q : Option sw_V → sw_S → Prop) : Nat → Nat → sw_L → List sw_V → sw_S → Prop := sw_wp sw_rf ln (ctX2_begin ln) sX2_begin 0 10 tX2_begin Q
theorem hX2_begin (ln : sw_A) (k : Nat) (x : Int32) (σ : sw_S) (h : (gX2_begin ln k x σ).1) : ∃ fuel, wX2_begin ln (sw_end (gX2_begin ln k x σ)) fuel 0 (sw_ent 2 [.inr (some (2, k)), .inl x]) [] σ :=
  ⟨20, And.intro h ⟨rfl, rfl⟩⟩
set_option maxRecDepth 100000 in
theorem mX2_begin {l : Launch} {ad : sw_A} {V : Nat → Nat → Prop} {ln : sw_A} {ca : Nat → ClassId} {D : va_G} (hG : sw_wf ad V sw_rf ln) : sw_met l ad V sw_rf ln ca D yX2_begin cX2_begin 2 none { frames := 1, cells := 0, slots := 0, locals := 21 } 2 (fX2_begin ln) := by
  refine sw_meth hG (by decide) (by refine ⟨?_, ?_, ?_, ?_⟩ <;> intro h <;> first | rfl | exact ⟨_, rfl⟩ | exact absurd h (by decide)) (by decide) kX2_begin flX2_in cnX2_in ?_ (sw_foi_h (W := fun Q L σ => ∃ fuel, wX2_begin ln Q fuel 0 L [] σ) (fun a0 a1 σ h => hX2_begin ln a0 a1 σ h))
  intro p e s m args below meth c S hT hnw
  refine List.forall_mem_cons.mpr ⟨sw_cokV S hT hnw (mX2_put hG) 25 2 (by decide) ⟨by decide +kernel, by decide +kernel, by decide +kernel, by decide +kernel, by decide +kernel⟩ ⟨rfl, by decide, by decide, by decide +kernel⟩ ⟨rfl, rfl⟩ ⟨by decide, by decide⟩, ?_⟩
  exact fun q h => absurd h List.not_mem_nil
def gX2_flip (ln : sw_A) (k : Nat) (i x : Int32) (σ : sw_S) : sw_X := (fr_ok ln k σ, some (.inl (if 0 ≤ i ∧ i < σ 2 k 1 then 1 else 0)), if 0 ≤ i ∧ i < σ 2 k 1 then sw_up σ 12 k i.toNatClampNeg (σ 12 k i.toNatClampNeg ^^^ x) else σ)
def fX2_flip (ln : sw_A) : sw_F := sw_foii 2 (gX2_flip ln)
def ctX2_flip (ln : sw_A) : sw_C := []
abbrev wX2_flip (ln : sw_A) (Q : Option sw_V → sw_S → Prop) : Nat → Nat → sw_L → List sw_V → sw_S → Prop := sw_wp sw_rf ln (ctX2_flip ln) sX2_flip 2 25 tX2_flip Q
theorem hX2_flip (ln : sw_A) (k : Nat) (i x : Int32) (σ : sw_S) (h : (gX2_flip ln k i x σ).1) : ∃ fuel, wX2_flip ln (sw_end (gX2_flip ln k i x σ)) fuel 0 (sw_ent 3 [.inr (some (2, k)), .inl i, .inl x]) [] σ := by
  refine ⟨30, ?_⟩
  refine And.intro (fun h1 => ?_) (fun h1 => ?_)
  · have hn : ¬ (0 ≤ i ∧ i < σ 2 k 1) := fun z => absurd h1 (Int32.not_lt.mpr z.1)
    exact ⟨Or.inl rfl, sw_ri (if_neg hn).symm, (if_neg hn).symm⟩
  · refine And.intro (fun h2 => ?_) (fun h2 => ?_)
    · have hn : 0 ≤ i ∧ i < σ 2 k 1 := ⟨Int32.not_lt.mp h1, h2⟩
      exact And.intro (vp_in_lt h1 h2 h.1 h.2) (And.intro (vp_in_lt h1 h2 h.1 h.2) ⟨Or.inr rfl, sw_ri (if_pos hn).symm, (if_pos hn).symm⟩)
    · have hn : ¬ (0 ≤ i ∧ i < σ 2 k 1) := fun z => h2 z.2
      exact ⟨Or.inl rfl, sw_ri (if_neg hn).symm, (if_neg hn).symm⟩
set_option maxRecDepth 100000 in
theorem mX2_flip {l : Launch} {ad : sw_A} {V : Nat → Nat → Prop} {ln : sw_A} {ca : Nat → ClassId} {D : va_G} (hG : sw_wf ad V sw_rf ln) : sw_met l ad V sw_rf ln ca D yX2_flip cX2_flip 3 (some .boolean) { frames := 0, cells := 0, slots := 0, locals := 0 } 3 (fX2_flip ln) := by
  refine sw_meth hG (by decide) (by refine ⟨?_, ?_, ?_, ?_⟩ <;> intro h <;> first | rfl | exact ⟨_, rfl⟩ | exact absurd h (by decide)) (by decide) kX2_flip flX2_in cnX2_in ?_ (sw_foii_h (W := fun Q L σ => ∃ fuel, wX2_flip ln Q fuel 0 L [] σ) (fun a0 a1 a2 σ h => hX2_flip ln a0 a1 a2 σ h))
  intro p e s m args below meth c S hT hnw
  exact fun q h => absurd h List.not_mem_nil
def gX2_kind (ln : sw_A) (k : Nat) (σ : sw_S) : sw_X := (fr_ok ln k σ, some (.inl (fr_at σ k 0 &&& 7)), σ)
def fX2_kind (ln : sw_A) : sw_F := sw_fo 2 (gX2_kind ln)
def ctX2_kind (ln : sw_A) : sw_C := [(47, 2, 3, fX2_wordAt ln)]
abbrev wX2_kind (ln : sw_A) (Q : Option sw_V → sw_S → Prop) : Nat → Nat → sw_L → List sw_V → sw_S → Prop := sw_wp sw_rf ln (ctX2_kind ln) sX2_kind 1 8 tX2_kind Q
theorem hX2_kind (ln : sw_A) (k : Nat) (σ : sw_S) (h : (gX2_kind ln k σ).1) : ∃ fuel, wX2_kind ln (sw_end (gX2_kind ln k σ)) fuel 0 (sw_ent 1 [.inr (some (2, k))]) [] σ :=
  ⟨20, And.intro h ⟨rfl, rfl⟩⟩
set_option maxRecDepth 100000 in
theorem mX2_kind {l : Launch} {ad : sw_A} {V : Nat → Nat → Prop} {ln : sw_A} {ca : Nat → ClassId} {D : va_G} (hG : sw_wf ad V sw_rf ln) : sw_met l ad V sw_rf ln ca D yX2_kind cX2_kind 1 (some .int) { frames := 1, cells := 0, slots := 0, locals := 21 } 1 (fX2_kind ln) := by
  refine sw_meth hG (by decide) (by refine ⟨?_, ?_, ?_, ?_⟩ <;> intro h <;> first | rfl | exact ⟨_, rfl⟩ | exact absurd h (by decide)) (by decide) kX2_kind flX2_in cnX2_in ?_ (sw_fo_h (W := fun Q L σ => ∃ fuel, wX2_kind ln Q fuel 0 L [] σ) (fun a0 σ h => hX2_kind ln a0 σ h))
  intro p e s m args below meth c S hT hnw
  refine List.forall_mem_cons.mpr ⟨sw_cokV S hT hnw (mX2_wordAt hG) 47 2 (by decide) ⟨by decide +kernel, by decide +kernel, by decide +kernel, by decide +kernel, by decide +kernel⟩ ⟨rfl, by decide, by decide, by decide +kernel⟩ ⟨rfl, rfl⟩ ⟨by decide, by decide⟩, ?_⟩
  exact fun q h => absurd h List.not_mem_nil
def gX2_streamNumber (ln : sw_A) (k : Nat) (σ : sw_S) : sw_X := (fr_ok ln k σ, some (.inl (sw_ushr (fr_at σ k 0) 3 &&& 31)), σ)
def fX2_streamNumber (ln : sw_A) : sw_F := sw_fo 2 (gX2_streamNumber ln)
def ctX2_streamNumber (ln : sw_A) : sw_C := [(47, 2, 3, fX2_wordAt ln)]
abbrev wX2_streamNumber (ln : sw_A) (Q : Option sw_V → sw_S → Prop) : Nat → Nat → sw_L → List sw_V → sw_S → Prop := sw_wp sw_rf ln (ctX2_streamNumber ln) sX2_streamNumber 1 10 tX2_streamNumber Q
theorem hX2_streamNumber (ln : sw_A) (k : Nat) (σ : sw_S) (h : (gX2_streamNumber ln k σ).1) : ∃ fuel, wX2_streamNumber ln (sw_end (gX2_streamNumber ln k σ)) fuel 0 (sw_ent 1 [.inr (some (2, k))]) [] σ :=
  ⟨20, And.intro h ⟨rfl, rfl⟩⟩
set_option maxRecDepth 100000 in
theorem mX2_streamNumber {l : Launch} {ad : sw_A} {V : Nat → Nat → Prop} {ln : sw_A} {ca : Nat → ClassId} {D : va_G} (hG : sw_wf ad V sw_rf ln) : sw_met l ad V sw_rf ln ca D yX2_streamNumber cX2_streamNumber 1 (some .int) { frames := 1, cells := 0, slots := 0, locals := 21 } 1 (fX2_streamNumber ln) := by
  refine sw_meth hG (by decide) (by refine ⟨?_, ?_, ?_, ?_⟩ <;> intro h <;> first | rfl | exact ⟨_, rfl⟩ | exact absurd h (by decide)) (by decide) kX2_streamNumber flX2_in cnX2_in ?_ (sw_fo_h (W := fun Q L σ => ∃ fuel, wX2_streamNumber ln Q fuel 0 L [] σ) (fun a0 σ h => hX2_streamNumber ln a0 σ h))
  intro p e s m args below meth c S hT hnw
  refine List.forall_mem_cons.mpr ⟨sw_cokV S hT hnw (mX2_wordAt hG) 47 2 (by decide) ⟨by decide +kernel, by decide +kernel, by decide +kernel, by decide +kernel, by decide +kernel⟩ ⟨rfl, by decide, by decide, by decide +kernel⟩ ⟨rfl, rfl⟩ ⟨by decide, by decide⟩, ?_⟩
  exact fun q h => absurd h List.not_mem_nil
def gX2_number (ln : sw_A) (k : Nat) (σ : sw_S) : sw_X := (fr_ok ln k σ, some (.inl (sw_ushr (fr_at σ k 0) 8 &&& 255)), σ)
def fX2_number (ln : sw_A) : sw_F := sw_fo 2 (gX2_number ln)
def ctX2_number (ln : sw_A) : sw_C := [(47, 2, 3, fX2_wordAt ln)]
abbrev wX2_number (ln : sw_A) (Q : Option sw_V → sw_S → Prop) : Nat → Nat → sw_L → List sw_V → sw_S → Prop := sw_wp sw_rf ln (ctX2_number ln) sX2_number 1 12 tX2_number Q
theorem hX2_number (ln : sw_A) (k : Nat) (σ : sw_S) (h : (gX2_number ln k σ).1) : ∃ fuel, wX2_number ln (sw_end (gX2_number ln k σ)) fuel 0 (sw_ent 1 [.inr (some (2, k))]) [] σ :=
  ⟨20, And.intro h ⟨rfl, rfl⟩⟩
set_option maxRecDepth 100000 in
theorem mX2_number {l : Launch} {ad : sw_A} {V : Nat → Nat → Prop} {ln : sw_A} {ca : Nat → ClassId} {D : va_G} (hG : sw_wf ad V sw_rf ln) : sw_met l ad V sw_rf ln ca D yX2_number cX2_number 1 (some .int) { frames := 1, cells := 0, slots := 0, locals := 21 } 1 (fX2_number ln) := by
  refine sw_meth hG (by decide) (by refine ⟨?_, ?_, ?_, ?_⟩ <;> intro h <;> first | rfl | exact ⟨_, rfl⟩ | exact absurd h (by decide)) (by decide) kX2_number flX2_in cnX2_in ?_ (sw_fo_h (W := fun Q L σ => ∃ fuel, wX2_number ln Q fuel 0 L [] σ) (fun a0 σ h => hX2_number ln a0 σ h))
  intro p e s m args below meth c S hT hnw
  refine List.forall_mem_cons.mpr ⟨sw_cokV S hT hnw (mX2_wordAt hG) 47 2 (by decide) ⟨by decide +kernel, by decide +kernel, by decide +kernel, by decide +kernel, by decide +kernel⟩ ⟨rfl, by decide, by decide, by decide +kernel⟩ ⟨rfl, rfl⟩ ⟨by decide, by decide⟩, ?_⟩
  exact fun q h => absurd h List.not_mem_nil
def gX2_wanted (ln : sw_A) (k : Nat) (σ : sw_S) : sw_X := (fr_ok ln k σ, some (.inl (sw_ushr (fr_at σ k 0) 16 &&& 255)), σ)
def fX2_wanted (ln : sw_A) : sw_F := sw_fo 2 (gX2_wanted ln)
def ctX2_wanted (ln : sw_A) : sw_C := [(47, 2, 3, fX2_wordAt ln)]
abbrev wX2_wanted (ln : sw_A) (Q : Option sw_V → sw_S → Prop) : Nat → Nat → sw_L → List sw_V → sw_S → Prop := sw_wp sw_rf ln (ctX2_wanted ln) sX2_wanted 1 12 tX2_wanted Q
theorem hX2_wanted (ln : sw_A) (k : Nat) (σ : sw_S) (h : (gX2_wanted ln k σ).1) : ∃ fuel, wX2_wanted ln (sw_end (gX2_wanted ln k σ)) fuel 0 (sw_ent 1 [.inr (some (2, k))]) [] σ :=
  ⟨20, And.intro h ⟨rfl, rfl⟩⟩
set_option maxRecDepth 100000 in
theorem mX2_wanted {l : Launch} {ad : sw_A} {V : Nat → Nat → Prop} {ln : sw_A} {ca : Nat → ClassId} {D : va_G} (hG : sw_wf ad V sw_rf ln) : sw_met l ad V sw_rf ln ca D yX2_wanted cX2_wanted 1 (some .int) { frames := 1, cells := 0, slots := 0, locals := 21 } 1 (fX2_wanted ln) := by
  refine sw_meth hG (by decide) (by refine ⟨?_, ?_, ?_, ?_⟩ <;> intro h <;> first | rfl | exact ⟨_, rfl⟩ | exact absurd h (by decide)) (by decide) kX2_wanted flX2_in cnX2_in ?_ (sw_fo_h (W := fun Q L σ => ∃ fuel, wX2_wanted ln Q fuel 0 L [] σ) (fun a0 σ h => hX2_wanted ln a0 σ h))
  intro p e s m args below meth c S hT hnw
  refine List.forall_mem_cons.mpr ⟨sw_cokV S hT hnw (mX2_wordAt hG) 47 2 (by decide) ⟨by decide +kernel, by decide +kernel, by decide +kernel, by decide +kernel, by decide +kernel⟩ ⟨rfl, by decide, by decide, by decide +kernel⟩ ⟨rfl, rfl⟩ ⟨by decide, by decide⟩, ?_⟩
  exact fun q h => absurd h List.not_mem_nil
def gX2_count (ln : sw_A) (k : Nat) (σ : sw_S) : sw_X := (fr_ok ln k σ, some (.inl (sw_ushr (fr_at σ k 0) 24)), σ)
def fX2_count (ln : sw_A) : sw_F := sw_fo 2 (gX2_count ln)
def ctX2_count (ln : sw_A) : sw_C := [(47, 2, 3, fX2_wordAt ln)]
abbrev wX2_count (ln : sw_A) (Q : Option sw_V → sw_S → Prop) : Nat → Nat → sw_L → List sw_V → sw_S → Prop := sw_wp sw_rf ln (ctX2_count ln) sX2_count 1 8 tX2_count Q
theorem hX2_count (ln : sw_A) (k : Nat) (σ : sw_S) (h : (gX2_count ln k σ).1) : ∃ fuel, wX2_count ln (sw_end (gX2_count ln k σ)) fuel 0 (sw_ent 1 [.inr (some (2, k))]) [] σ :=
  ⟨20, And.intro h ⟨rfl, rfl⟩⟩
set_option maxRecDepth 100000 in
theorem mX2_count {l : Launch} {ad : sw_A} {V : Nat → Nat → Prop} {ln : sw_A} {ca : Nat → ClassId} {D : va_G} (hG : sw_wf ad V sw_rf ln) : sw_met l ad V sw_rf ln ca D yX2_count cX2_count 1 (some .int) { frames := 1, cells := 0, slots := 0, locals := 21 } 1 (fX2_count ln) := by
  refine sw_meth hG (by decide) (by refine ⟨?_, ?_, ?_, ?_⟩ <;> intro h <;> first | rfl | exact ⟨_, rfl⟩ | exact absurd h (by decide)) (by decide) kX2_count flX2_in cnX2_in ?_ (sw_fo_h (W := fun Q L σ => ∃ fuel, wX2_count ln Q fuel 0 L [] σ) (fun a0 σ h => hX2_count ln a0 σ h))
  intro p e s m args below meth c S hT hnw
  refine List.forall_mem_cons.mpr ⟨sw_cokV S hT hnw (mX2_wordAt hG) 47 2 (by decide) ⟨by decide +kernel, by decide +kernel, by decide +kernel, by decide +kernel, by decide +kernel⟩ ⟨rfl, by decide, by decide, by decide +kernel⟩ ⟨rfl, rfl⟩ ⟨by decide, by decide⟩, ?_⟩
  exact fun q h => absurd h List.not_mem_nil
def gX2_itemWord (ln : sw_A) (k : Nat) (i : Int32) (σ : sw_S) : sw_X := (fr_ok ln k σ, some (.inl (fr_at σ k (2 + i))), σ)
def fX2_itemWord (ln : sw_A) : sw_F := sw_foi 2 (gX2_itemWord ln)
def ctX2_itemWord (ln : sw_A) : sw_C := [(47, 2, 3, fX2_wordAt ln)]
abbrev wX2_itemWord (ln : sw_A) (Q : Option sw_V → sw_S → Prop) : Nat → Nat → sw_L → List sw_V → sw_S → Prop := sw_wp sw_rf ln (ctX2_itemWord ln) sX2_itemWord 1 7 tX2_itemWord Q
theorem hX2_itemWord (ln : sw_A) (k : Nat) (i : Int32) (σ : sw_S) (h : (gX2_itemWord ln k i σ).1) : ∃ fuel, wX2_itemWord ln (sw_end (gX2_itemWord ln k i σ)) fuel 0 (sw_ent 2 [.inr (some (2, k)), .inl i]) [] σ :=
  ⟨20, And.intro h ⟨rfl, rfl⟩⟩
set_option maxRecDepth 100000 in
theorem mX2_itemWord {l : Launch} {ad : sw_A} {V : Nat → Nat → Prop} {ln : sw_A} {ca : Nat → ClassId} {D : va_G} (hG : sw_wf ad V sw_rf ln) : sw_met l ad V sw_rf ln ca D yX2_itemWord cX2_itemWord 2 (some .int) { frames := 1, cells := 0, slots := 0, locals := 21 } 2 (fX2_itemWord ln) := by
  refine sw_meth hG (by decide) (by refine ⟨?_, ?_, ?_, ?_⟩ <;> intro h <;> first | rfl | exact ⟨_, rfl⟩ | exact absurd h (by decide)) (by decide) kX2_itemWord flX2_in cnX2_in ?_ (sw_foi_h (W := fun Q L σ => ∃ fuel, wX2_itemWord ln Q fuel 0 L [] σ) (fun a0 a1 σ h => hX2_itemWord ln a0 a1 σ h))
  intro p e s m args below meth c S hT hnw
  refine List.forall_mem_cons.mpr ⟨sw_cokV S hT hnw (mX2_wordAt hG) 47 2 (by decide) ⟨by decide +kernel, by decide +kernel, by decide +kernel, by decide +kernel, by decide +kernel⟩ ⟨rfl, by decide, by decide, by decide +kernel⟩ ⟨rfl, rfl⟩ ⟨by decide, by decide⟩, ?_⟩
  exact fun q h => absurd h List.not_mem_nil
def gX2_granted (ln : sw_A) (k : Nat) (σ : sw_S) : sw_X := (fr_ok ln k σ, some (.inl (fr_at σ k 1)), σ)
def fX2_granted (ln : sw_A) : sw_F := sw_fo 2 (gX2_granted ln)
def ctX2_granted (ln : sw_A) : sw_C := [(47, 2, 3, fX2_wordAt ln)]
abbrev wX2_granted (ln : sw_A) (Q : Option sw_V → sw_S → Prop) : Nat → Nat → sw_L → List sw_V → sw_S → Prop := sw_wp sw_rf ln (ctX2_granted ln) sX2_granted 1 5 tX2_granted Q
theorem hX2_granted (ln : sw_A) (k : Nat) (σ : sw_S) (h : (gX2_granted ln k σ).1) : ∃ fuel, wX2_granted ln (sw_end (gX2_granted ln k σ)) fuel 0 (sw_ent 1 [.inr (some (2, k))]) [] σ :=
  ⟨20, And.intro h ⟨rfl, rfl⟩⟩
set_option maxRecDepth 100000 in
theorem mX2_granted {l : Launch} {ad : sw_A} {V : Nat → Nat → Prop} {ln : sw_A} {ca : Nat → ClassId} {D : va_G} (hG : sw_wf ad V sw_rf ln) : sw_met l ad V sw_rf ln ca D yX2_granted cX2_granted 1 (some .int) { frames := 1, cells := 0, slots := 0, locals := 21 } 1 (fX2_granted ln) := by
  refine sw_meth hG (by decide) (by refine ⟨?_, ?_, ?_, ?_⟩ <;> intro h <;> first | rfl | exact ⟨_, rfl⟩ | exact absurd h (by decide)) (by decide) kX2_granted flX2_in cnX2_in ?_ (sw_fo_h (W := fun Q L σ => ∃ fuel, wX2_granted ln Q fuel 0 L [] σ) (fun a0 σ h => hX2_granted ln a0 σ h))
  intro p e s m args below meth c S hT hnw
  refine List.forall_mem_cons.mpr ⟨sw_cokV S hT hnw (mX2_wordAt hG) 47 2 (by decide) ⟨by decide +kernel, by decide +kernel, by decide +kernel, by decide +kernel, by decide +kernel⟩ ⟨rfl, by decide, by decide, by decide +kernel⟩ ⟨rfl, rfl⟩ ⟨by decide, by decide⟩, ?_⟩
  exact fun q h => absurd h List.not_mem_nil
def fr_mk (σ : sw_S) (k : Nat) (i : Int32) : Int32 := if sw_ushr (fr_at σ k 1) i &&& 1 = 1 then 1 else 0
def gX2_isMark (ln : sw_A) (k : Nat) (i : Int32) (σ : sw_S) : sw_X := (fr_ok ln k σ, some (.inl (fr_mk σ k i)), σ)
def fX2_isMark (ln : sw_A) : sw_F := sw_foi 2 (gX2_isMark ln)
def ctX2_isMark (ln : sw_A) : sw_C := [(47, 2, 3, fX2_wordAt ln)]
abbrev wX2_isMark (ln : sw_A) (Q : Option sw_V → sw_S → Prop) : Nat → Nat → sw_L → List sw_V → sw_S → Prop := sw_wp sw_rf ln (ctX2_isMark ln) sX2_isMark 2 18 tX2_isMark Q
theorem hX2_isMark (ln : sw_A) (k : Nat) (i : Int32) (σ : sw_S) (h : (gX2_isMark ln k i σ).1) : ∃ fuel, wX2_isMark ln (sw_end (gX2_isMark ln k i σ)) fuel 0 (sw_ent 2 [.inr (some (2, k)), .inl i]) [] σ :=
  ⟨20, And.intro h (And.intro (fun h1 => ⟨Or.inl rfl, sw_ri (if_neg h1).symm, rfl⟩) (fun h1 => ⟨Or.inr rfl, sw_ri (if_pos h1).symm, rfl⟩))⟩
set_option maxRecDepth 100000 in
theorem mX2_isMark {l : Launch} {ad : sw_A} {V : Nat → Nat → Prop} {ln : sw_A} {ca : Nat → ClassId} {D : va_G} (hG : sw_wf ad V sw_rf ln) : sw_met l ad V sw_rf ln ca D yX2_isMark cX2_isMark 2 (some .boolean) { frames := 1, cells := 0, slots := 0, locals := 21 } 2 (fX2_isMark ln) := by
  refine sw_meth hG (by decide) (by refine ⟨?_, ?_, ?_, ?_⟩ <;> intro h <;> first | rfl | exact ⟨_, rfl⟩ | exact absurd h (by decide)) (by decide) kX2_isMark flX2_in cnX2_in ?_ (sw_foi_h (W := fun Q L σ => ∃ fuel, wX2_isMark ln Q fuel 0 L [] σ) (fun a0 a1 σ h => hX2_isMark ln a0 a1 σ h))
  intro p e s m args below meth c S hT hnw
  refine List.forall_mem_cons.mpr ⟨sw_cokV S hT hnw (mX2_wordAt hG) 47 2 (by decide) ⟨by decide +kernel, by decide +kernel, by decide +kernel, by decide +kernel, by decide +kernel⟩ ⟨rfl, by decide, by decide, by decide +kernel⟩ ⟨rfl, rfl⟩ ⟨by decide, by decide⟩, ?_⟩
  exact fun q h => absurd h List.not_mem_nil
/-- the sum of the first n words that w tells: a and b -/
def sm_ab (w : Int32 → Int32) : Nat → Int32 × Int32
  | 0 => (0, 0)
  | n + 1 => (sw_rem (sw_rem ((sm_ab w n).1 + sw_ushr (w (nI n)) 16) 65535 + (w (nI n) &&& 65535)) 65535,
    sw_rem (sw_rem ((sm_ab w n).2 + sw_rem ((sm_ab w n).1 + sw_ushr (w (nI n)) 16) 65535) 65535 + sw_rem (sw_rem ((sm_ab w n).1 + sw_ushr (w (nI n)) 16) 65535 + (w (nI n) &&& 65535)) 65535) 65535)
def sm (w : Int32 → Int32) (n : Nat) : Int32 := (sm_ab w n).2 <<< (16 &&& 31) ||| (sm_ab w n).1
def gX2_sumBefore (ln : sw_A) (k : Nat) (e : Int32) (σ : sw_S) : sw_X := (fr_ok ln k σ ∧ 0 ≤ e, some (.inl (sm (fr_at σ k) e.toNatClampNeg)), σ)
def fX2_sumBefore (ln : sw_A) : sw_F := sw_foi 2 (gX2_sumBefore ln)
def ctX2_sumBefore (ln : sw_A) : sw_C := [(47, 2, 3, fX2_wordAt ln)]
abbrev wX2_sumBefore (ln : sw_A) (Q : Option sw_V → sw_S → Prop) : Nat → Nat → sw_L → List sw_V → sw_S → Prop := sw_wp sw_rf ln (ctX2_sumBefore ln) sX2_sumBefore 1 69 tX2_sumBefore Q
theorem hX2_sumBefore_l (ln : sw_A) (k n : Nat) (σ : sw_S) (hn : n < 2 ^ 31) (hk : fr_ok ln k σ) : ∀ (d j : Nat) (x5 : Option sw_V), j + d = n → ∃ fuel, wX2_sumBefore ln (sw_end (gX2_sumBefore ln k (nI n) σ)) fuel 7 [some (.inr (some (2, k))), some (.inl (nI n)), some (.inl (sm_ab (fr_at σ k) j).1), some (.inl (sm_ab (fr_at σ k) j).2), some (.inl (nI j)), x5] [] σ := by
  intro d
  induction d with
  | zero =>
    intro j x5 hj
    have hj : j = n := by omega
    subst hj
    refine ⟨20, And.intro (fun _ => ⟨?_, rfl⟩) (fun h => absurd (Int32.le_refl _) h)⟩
    show some _ = some (Sum.inl (sm (fr_at σ k) (nI j).toNatClampNeg))
    rw [nI_clamp hn]
    rfl
  | succ d ih =>
    intro j x5 hj
    obtain ⟨f, hf⟩ := ih (j + 1) (some (.inl (fr_at σ k (nI j)))) (by omega)
    rw [← nI_1] at hf
    refine ⟨f + 60, sw_ws_wp [7] f 60 _ _ _ _ ?_⟩
    refine And.intro (fun h => absurd h (nI_ge (by omega) hn)) (fun _ => And.intro hk (And.intro (by decide) (And.intro (by decide) (And.intro (by decide) (And.intro (by decide) ?_)))))
    exact hf
theorem hX2_sumBefore (ln : sw_A) (k : Nat) (e : Int32) (σ : sw_S) (h : (gX2_sumBefore ln k e σ).1) : ∃ fuel, wX2_sumBefore ln (sw_end (gX2_sumBefore ln k e σ)) fuel 0 (sw_ent 6 [.inr (some (2, k)), .inl e]) [] σ := by
  obtain ⟨n, hn, rfl⟩ := nI_of (Int32.not_lt.mpr h.2)
  obtain ⟨f, hf⟩ := hX2_sumBefore_l ln k n σ hn h.1 n 0 none (by omega)
  exact ⟨f + 10, sw_wp_mono hf _⟩
set_option maxRecDepth 100000 in
theorem mX2_sumBefore {l : Launch} {ad : sw_A} {V : Nat → Nat → Prop} {ln : sw_A} {ca : Nat → ClassId} {D : va_G} (hG : sw_wf ad V sw_rf ln) : sw_met l ad V sw_rf ln ca D yX2_sumBefore cX2_sumBefore 6 (some .int) { frames := 1, cells := 0, slots := 0, locals := 21 } 2 (fX2_sumBefore ln) := by
  refine sw_meth hG (by decide) (by refine ⟨?_, ?_, ?_, ?_⟩ <;> intro h <;> first | rfl | exact ⟨_, rfl⟩ | exact absurd h (by decide)) (by decide) kX2_sumBefore flX2_in cnX2_in ?_ (sw_foi_h (W := fun Q L σ => ∃ fuel, wX2_sumBefore ln Q fuel 0 L [] σ) (fun a0 a1 σ h => hX2_sumBefore ln a0 a1 σ h))
  intro p e s m args below meth c S hT hnw
  refine List.forall_mem_cons.mpr ⟨sw_cokV S hT hnw (mX2_wordAt hG) 47 2 (by decide) ⟨by decide +kernel, by decide +kernel, by decide +kernel, by decide +kernel, by decide +kernel⟩ ⟨rfl, by decide, by decide, by decide +kernel⟩ ⟨rfl, rfl⟩ ⟨by decide, by decide⟩, ?_⟩
  exact fun q h => absurd h List.not_mem_nil
