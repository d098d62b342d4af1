/-! Frame: its small methods -/
/-- word i of frame k, as wordAt tells it -/
def fr_at (σ : sw_S) (k : Nat) (i : Int32) : Int32 := if 0 ≤ i ∧ i < σ 2 k 1 then σ 12 k i.toNatClampNeg else 0
theorem vp_in_lt {i n : Int32} {c : Nat} (h0 : ¬ i < 0) (h1 : i < n) (h2 : n ≤ nI c) (hc : c < 2 ^ 31) : vp_in i c := by
  rw [vp_in_iff]
  rw [Int32.lt_iff_toInt_lt] at h0 h1
  rw [Int32.le_iff_toInt_le, nI_toInt hc] at h2
  rw [Int32.toInt_zero] at h0
  omega
/-- a frame's length fits its row -/
def fr_ok (ln : sw_A) (k : Nat) (σ : sw_S) : Prop := σ 2 k 1 ≤ nI (ln 12 k) ∧ ln 12 k < 2 ^ 31
def gX2_wordAt (ln : sw_A) (k : Nat) (i : Int32) (σ : sw_S) : sw_X := (fr_ok ln k σ, some (.inl (fr_at σ k i)), σ)
def fX2_wordAt (ln : sw_A) : sw_F := sw_foi 2 (gX2_wordAt ln)
def ctX2_wordAt (ln : sw_A) : sw_C := []
abbrev wX2_wordAt (ln : sw_A) (Q : Option sw_V → sw_S → Prop) : Nat → Nat → sw_L → List sw_V → sw_S → Prop := sw_wp sw_rf ln (ctX2_wordAt ln) sX2_wordAt 1 22 tX2_wordAt Q
theorem hX2_wordAt (ln : sw_A) (k : Nat) (i : Int32) (σ : sw_S) (h : (gX2_wordAt ln k i σ).1) : ∃ fuel, wX2_wordAt ln (sw_end (gX2_wordAt ln k i σ)) fuel 0 (sw_ent 2 [.inr (some (2, k)), .inl i]) [] σ := by
  refine ⟨20, ?_⟩
  refine And.intro (fun h1 => ?_) (fun h1 => ?_)
  · refine ⟨?_, rfl⟩
    sorry
  · refine And.intro (fun h2 => ?_) (fun h2 => ?_)
    · sorry
    · refine And.intro (vp_in_lt h1 (Int32.not_le.mp h2) h.1 h.2) ?_
      sorry
set_option maxRecDepth 100000 in
theorem mX2_wordAt {l : Launch} {ad : sw_A} {V : Nat → Nat → Prop} {ln : sw_A} {ca : Nat → ClassId} {D : va_G} (hG : sw_wf ad V sw_rf ln) : sw_met l ad V sw_rf ln ca D yX2_wordAt cX2_wordAt 2 (some .int) { frames := 0, cells := 0, slots := 0, locals := 0 } 2 (fX2_wordAt ln) := by
  refine sw_meth hG (by decide) (by refine ⟨?_, ?_, ?_, ?_⟩ <;> intro h <;> first | rfl | exact ⟨_, rfl⟩ | exact absurd h (by decide)) (by decide) kX2_wordAt flX2_in cnX2_in ?_ (sw_foi_h (W := fun Q L σ => ∃ fuel, wX2_wordAt ln Q fuel 0 L [] σ) (fun a0 a1 σ h => hX2_wordAt ln a0 a1 σ h))
  intro p e s m args below meth c S hT hnw
  exact fun q h => absurd h List.not_mem_nil
def gX2_put (ln : sw_A) (k : Nat) (x : Int32) (σ : sw_S) : sw_X := (0 ≤ σ 2 k 1 ∧ ln 12 k < 2 ^ 31, none, if σ 2 k 1 < nI (ln 12 k) then sw_up (sw_up σ 12 k (σ 2 k 1).toNatClampNeg x) 2 k 1 (σ 2 k 1 + 1) else σ)
def fX2_put (ln : sw_A) : sw_F := sw_foi 2 (gX2_put ln)
def ctX2_put (ln : sw_A) : sw_C := []
abbrev wX2_put (ln : sw_A) (Q : Option sw_V → sw_S → Prop) : Nat → Nat → sw_L → List sw_V → sw_S → Prop := sw_wp sw_rf ln (ctX2_put ln) sX2_put 0 32 tX2_put Q
theorem hX2_put (ln : sw_A) (k : Nat) (x : Int32) (σ : sw_S) (h : (gX2_put ln k x σ).1) : ∃ fuel, wX2_put ln (sw_end (gX2_put ln k x σ)) fuel 0 (sw_ent 2 [.inr (some (2, k)), .inl x]) [] σ := by
  refine ⟨30, ?_⟩
  refine And.intro (fun h1 => ?_) (fun h1 => ?_)
  · refine ⟨rfl, ?_⟩
    exact (if_neg (Int32.not_lt.mpr h1)).symm
  · have h2 := Int32.not_le.mp h1
    refine And.intro ?_ ?_
    · exact vp_in_lt (Int32.not_lt.mpr h.1) h2 (Int32.le_refl _) h.2
    · refine ⟨rfl, ?_⟩
      exact (if_pos h2).symm
set_option maxRecDepth 100000 in
theorem mX2_put {l : Launch} {ad : sw_A} {V : Nat → Nat → Prop} {ln : sw_A} {ca : Nat → ClassId} {D : va_G} (hG : sw_wf ad V sw_rf ln) : sw_met l ad V sw_rf ln ca D yX2_put cX2_put 2 none { frames := 0, cells := 0, slots := 0, locals := 0 } 2 (fX2_put ln) := by
  refine sw_meth hG (by decide) (by refine ⟨?_, ?_, ?_, ?_⟩ <;> intro h <;> first | rfl | exact ⟨_, rfl⟩ | exact absurd h (by decide)) (by decide) kX2_put flX2_in cnX2_in ?_ (sw_foi_h (W := fun Q L σ => ∃ fuel, wX2_put ln Q fuel 0 L [] σ) (fun a0 a1 σ h => hX2_put ln a0 a1 σ h))
  intro p e s m args below meth c S hT hnw
  exact fun q h => absurd h List.not_mem_nil
