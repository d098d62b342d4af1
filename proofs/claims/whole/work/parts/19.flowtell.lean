/-! Flow.tell -/
def fl_te (w : Nat) (x : Int32) (σ : sw_S) : Int32 := if x = 0 then σ 1 w 3 else if x = 1 then bi (σ 1 w 9) else if x = 2 then σ 1 w 5 else if x = 3 then σ 1 w 6 else if x = 4 then σ 5 (2 * w) 3 else if x = 5 then σ 5 (2 * w + 1) 3 else if x = 6 then bi (σ 1 w 7) else if x = 7 then bi (σ 1 w 8) else if x = 8 then σ 1 w 11 else if x = 9 then σ 1 w 12 else -1
def gX1_tell (ln : sw_A) (w : Nat) (x : Int32) (σ : sw_S) : sw_X := (True, some (.inl (fl_te w x σ)), σ)
def fX1_tell (ln : sw_A) : sw_F := sw_foi 1 (gX1_tell ln)
def ctX1_tell (ln : sw_A) : sw_C := [(102, 1, 0, fX7_bit ln), (46, 1, 6, fX5_size ln)]
abbrev wX1_tell (ln : sw_A) (Q : Option sw_V → sw_S → Prop) : Nat → Nat → sw_L → List sw_V → sw_S → Prop := sw_wp sw_rf ln (ctX1_tell ln) sX1_tell 1 122 tX1_tell Q
theorem hX1_tell (ln : sw_A) (w : Nat) (x : Int32) (σ : sw_S) (h : (gX1_tell ln w x σ).1) : ∃ fuel, wX1_tell ln (sw_end (gX1_tell ln w x σ)) fuel 0 (sw_ent 2 [.inr (some (1, w)), .inl x]) [] σ := by
  refine ⟨20, And.intro (fun (h0 : x = 0) => ⟨sw_ri ?_, rfl⟩) (fun (n0 : ¬ x = 0) => And.intro (fun (h1 : x = 1) => And.intro trivial ⟨sw_ri ?_, rfl⟩) (fun (n1 : ¬ x = 1) => And.intro (fun (h2 : x = 2) => ⟨sw_ri ?_, rfl⟩) (fun (n2 : ¬ x = 2) => And.intro (fun (h3 : x = 3) => ⟨sw_ri ?_, rfl⟩) (fun (n3 : ¬ x = 3) => And.intro (fun (h4 : x = 4) => And.intro trivial ⟨sw_ri ?_, rfl⟩) (fun (n4 : ¬ x = 4) => And.intro (fun (h5 : x = 5) => And.intro trivial ⟨sw_ri ?_, rfl⟩) (fun (n5 : ¬ x = 5) => And.intro (fun (h6 : x = 6) => And.intro trivial ⟨sw_ri ?_, rfl⟩) (fun (n6 : ¬ x = 6) => And.intro (fun (h7 : x = 7) => And.intro trivial ⟨sw_ri ?_, rfl⟩) (fun (n7 : ¬ x = 7) => And.intro (fun (h8 : x = 8) => ⟨sw_ri ?_, rfl⟩) (fun (n8 : ¬ x = 8) => And.intro (fun (h9 : x = 9) => ⟨sw_ri ?_, rfl⟩) (fun (n9 : ¬ x = 9) => ⟨sw_ri ?_, rfl⟩))))))))))⟩
  · unfold fl_te; rw [if_pos h0]; try rfl
  · unfold fl_te; rw [if_neg n0, if_pos h1]; try rfl
  · unfold fl_te; rw [if_neg n0, if_neg n1, if_pos h2]; try rfl
  · unfold fl_te; rw [if_neg n0, if_neg n1, if_neg n2, if_pos h3]; try rfl
  · unfold fl_te; rw [if_neg n0, if_neg n1, if_neg n2, if_neg n3, if_pos h4]; try rfl
  · unfold fl_te; rw [if_neg n0, if_neg n1, if_neg n2, if_neg n3, if_neg n4, if_pos h5]; try rfl
  · unfold fl_te; rw [if_neg n0, if_neg n1, if_neg n2, if_neg n3, if_neg n4, if_neg n5, if_pos h6]; try rfl
  · unfold fl_te; rw [if_neg n0, if_neg n1, if_neg n2, if_neg n3, if_neg n4, if_neg n5, if_neg n6, if_pos h7]; try rfl
  · unfold fl_te; rw [if_neg n0, if_neg n1, if_neg n2, if_neg n3, if_neg n4, if_neg n5, if_neg n6, if_neg n7, if_pos h8]; try rfl
  · unfold fl_te; rw [if_neg n0, if_neg n1, if_neg n2, if_neg n3, if_neg n4, if_neg n5, if_neg n6, if_neg n7, if_neg n8, if_pos h9]; try rfl
  · unfold fl_te; rw [if_neg n0, if_neg n1, if_neg n2, if_neg n3, if_neg n4, if_neg n5, if_neg n6, if_neg n7, if_neg n8, if_neg n9]; try rfl
set_option maxRecDepth 100000 in
theorem mX1_tell {l : Launch} {ad : sw_A} {V : Nat → Nat → Prop} {ln : sw_A} {ca : Nat → ClassId} {D : va_G} (hG : sw_wf ad V sw_rf ln) : sw_met l ad V sw_rf ln ca D yX1_tell cX1_tell 2 (some .int) { frames := 1, cells := 0, slots := 0, locals := 20 } 2 (fX1_tell ln) := by
  refine sw_meth hG (by decide) (by refine ⟨?_, ?_, ?_, ?_⟩ <;> intro h <;> first | rfl | exact ⟨_, rfl⟩ | exact absurd h (by decide)) (by decide) kX1_tell flX1_in cnX1_in ?_ (sw_foi_h (W := fun Q L σ => ∃ fuel, wX1_tell ln Q fuel 0 L [] σ) (fun a0 a1 σ h => hX1_tell ln a0 a1 σ h))
  intro p e s m args below meth c S hT hnw
  refine List.forall_mem_cons.mpr ⟨sw_cokN S hT hnw (mX7_bit hG) 102 hnw.1 ⟨by decide +kernel, by decide +kernel, by decide +kernel⟩ ⟨by decide, by decide, by decide +kernel⟩ ⟨rfl, rfl⟩ ⟨by decide, by decide⟩, ?_⟩
  refine List.forall_mem_cons.mpr ⟨sw_cokV S hT hnw (mX5_size hG) 46 5 (by decide) ⟨by decide +kernel, by decide +kernel, by decide +kernel, by decide +kernel, by decide +kernel⟩ ⟨rfl, by decide, by decide, by decide +kernel⟩ ⟨rfl, rfl⟩ ⟨by decide, by decide⟩, ?_⟩
  exact fun q h => absurd h List.not_mem_nil
