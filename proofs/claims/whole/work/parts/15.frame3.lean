/-! Frame: whether it is sound -/
def fr_sk (σ : sw_S) (k q : Nat) : Int32 :=
  if fr_kd σ k = 0 then (if fr_sn σ k = 0 then (if fr_nu σ k = 0 then (if fr_ct σ k = 0 then 1 else 0) else 0) else 0)
  else if fr_kd σ k = 1 then (if fr_ct σ k < 1 then 0 else if σ 4 q 1 < fr_ct σ k then 0 else if fr_am σ k = 0 then 0 else 1)
  else if fr_kd σ k = 2 then (if fr_ct σ k = 0 then (if fr_at σ k 1 ≤ 0 then 0 else 1) else 0)
  else if fr_kd σ k = 3 then (if fr_ct σ k = 0 then 1 else 0)
  else if fr_kd σ k = 4 then (if fr_ct σ k = 0 then 1 else 0)
  else 0
def gX2_isSoundForKind (ln : sw_A) (k q : Nat) (σ : sw_S) : sw_X := (fr_ok ln k σ, some (.inl (fr_sk σ k q)), σ)
def fX2_isSoundForKind (ln : sw_A) : sw_F := sw_foo 2 4 (gX2_isSoundForKind ln)
def ctX2_isSoundForKind (ln : sw_A) : sw_C := [(71, 1, 3, fX2_kind ln), (53, 1, 3, fX2_streamNumber ln), (61, 1, 3, fX2_number ln), (74, 1, 3, fX2_count ln), (80, 1, 3, fX2_areMarksSound ln), (84, 1, 3, fX2_granted ln)]
abbrev wX2_isSoundForKind (ln : sw_A) (Q : Option sw_V → sw_S → Prop) : Nat → Nat → sw_L → List sw_V → sw_S → Prop := sw_wp sw_rf ln (ctX2_isSoundForKind ln) sX2_isSoundForKind 2 133 tX2_isSoundForKind Q
theorem hX2_isSoundForKind (ln : sw_A) (k q : Nat) (σ : sw_S) (h : (gX2_isSoundForKind ln k q σ).1) : ∃ fuel, wX2_isSoundForKind ln (sw_end (gX2_isSoundForKind ln k q σ)) fuel 0 (sw_ent 2 [.inr (some (2, k)), .inr (some (4, q))]) [] σ := by
  refine ⟨30, And.intro h (And.intro (fun (h0 : fr_kd σ k = 0) => ?_) (fun (n0 : ¬ fr_kd σ k = 0) => And.intro (fun (h1 : fr_kd σ k = 1) => ?_) (fun (n1 : ¬ fr_kd σ k = 1) => And.intro (fun (h2 : fr_kd σ k = 2) => ?_) (fun (n2 : ¬ fr_kd σ k = 2) => And.intro (fun (h3 : fr_kd σ k = 3) => ?_) (fun (n3 : ¬ fr_kd σ k = 3) => And.intro (fun (h4 : fr_kd σ k = 4) => ?_) (fun (n4 : ¬ fr_kd σ k = 4) => ?_))))))⟩
  · refine And.intro h (And.intro (fun (a1 : ¬ fr_sn σ k = 0) => ⟨Or.inl rfl, sw_ri ?_, rfl⟩) (fun (a1 : fr_sn σ k = 0) => And.intro h (And.intro (fun (a2 : ¬ fr_nu σ k = 0) => ⟨Or.inl rfl, sw_ri ?_, rfl⟩) (fun (a2 : fr_nu σ k = 0) => And.intro h (And.intro (fun (a3 : ¬ fr_ct σ k = 0) => ⟨Or.inl rfl, sw_ri ?_, rfl⟩) (fun (a3 : fr_ct σ k = 0) => ⟨Or.inr rfl, sw_ri ?_, rfl⟩))))))
    · unfold fr_sk; rw [if_pos h0, if_neg a1]
    · unfold fr_sk; rw [if_pos h0, if_pos a1, if_neg a2]
    · unfold fr_sk; rw [if_pos h0, if_pos a1, if_pos a2, if_neg a3]
    · unfold fr_sk; rw [if_pos h0, if_pos a1, if_pos a2, if_pos a3]
  · refine And.intro h (And.intro (fun (a1 : fr_ct σ k < 1) => ⟨Or.inl rfl, sw_ri ?_, rfl⟩) (fun (a1 : ¬ fr_ct σ k < 1) => And.intro h (And.intro (fun (a2 : σ 4 q 1 < fr_ct σ k) => ⟨Or.inl rfl, sw_ri ?_, rfl⟩) (fun (a2 : ¬ σ 4 q 1 < fr_ct σ k) => And.intro h (And.intro (fun (a3 : fr_am σ k = 0) => ⟨Or.inl rfl, sw_ri ?_, rfl⟩) (fun (a3 : ¬ fr_am σ k = 0) => ⟨Or.inr rfl, sw_ri ?_, rfl⟩))))))
    · unfold fr_sk; rw [if_neg n0, if_pos h1, if_pos a1]
    · unfold fr_sk; rw [if_neg n0, if_pos h1, if_neg a1, if_pos a2]
    · unfold fr_sk; rw [if_neg n0, if_pos h1, if_neg a1, if_neg a2, if_pos a3]
    · unfold fr_sk; rw [if_neg n0, if_pos h1, if_neg a1, if_neg a2, if_neg a3]
  · refine And.intro h (And.intro (fun (a1 : ¬ fr_ct σ k = 0) => ⟨Or.inl rfl, sw_ri ?_, rfl⟩) (fun (a1 : fr_ct σ k = 0) => And.intro h (And.intro (fun (a2 : fr_at σ k 1 ≤ 0) => ⟨Or.inl rfl, sw_ri ?_, rfl⟩) (fun (a2 : ¬ fr_at σ k 1 ≤ 0) => ⟨Or.inr rfl, sw_ri ?_, rfl⟩))))
    · unfold fr_sk; rw [if_neg n0, if_neg n1, if_pos h2, if_neg a1]
    · unfold fr_sk; rw [if_neg n0, if_neg n1, if_pos h2, if_pos a1, if_pos a2]
    · unfold fr_sk; rw [if_neg n0, if_neg n1, if_pos h2, if_pos a1, if_neg a2]
  · refine And.intro h (And.intro (fun (a1 : ¬ fr_ct σ k = 0) => ⟨Or.inl rfl, sw_ri ?_, rfl⟩) (fun (a1 : fr_ct σ k = 0) => ⟨Or.inr rfl, sw_ri ?_, rfl⟩))
    · unfold fr_sk; rw [if_neg n0, if_neg n1, if_neg n2, if_pos h3, if_neg a1]
    · unfold fr_sk; rw [if_neg n0, if_neg n1, if_neg n2, if_pos h3, if_pos a1]
  · refine And.intro h (And.intro (fun (a1 : ¬ fr_ct σ k = 0) => ⟨Or.inl rfl, sw_ri ?_, rfl⟩) (fun (a1 : fr_ct σ k = 0) => ⟨Or.inr rfl, sw_ri ?_, rfl⟩))
    · unfold fr_sk; rw [if_neg n0, if_neg n1, if_neg n2, if_neg n3, if_pos h4, if_neg a1]
    · unfold fr_sk; rw [if_neg n0, if_neg n1, if_neg n2, if_neg n3, if_pos h4, if_pos a1]
  · refine ⟨Or.inl rfl, sw_ri ?_, rfl⟩
    unfold fr_sk; rw [if_neg n0, if_neg n1, if_neg n2, if_neg n3, if_neg n4]
set_option maxRecDepth 100000 in
theorem mX2_isSoundForKind {l : Launch} {ad : sw_A} {V : Nat → Nat → Prop} {ln : sw_A} {ca : Nat → ClassId} {D : va_G} (hG : sw_wf ad V sw_rf ln) : sw_met l ad V sw_rf ln ca D yX2_isSoundForKind cX2_isSoundForKind 2 (some .boolean) { frames := 3, cells := 0, slots := 0, locals := 63 } 2 (fX2_isSoundForKind ln) := by
  refine sw_meth hG (by decide) (by refine ⟨?_, ?_, ?_, ?_⟩ <;> intro h <;> first | rfl | exact ⟨_, rfl⟩ | exact absurd h (by decide)) (by decide) kX2_isSoundForKind flX2_in cnX2_in ?_ (sw_foo_h (W := fun Q L σ => ∃ fuel, wX2_isSoundForKind ln Q fuel 0 L [] σ) (fun a0 a1 σ h => hX2_isSoundForKind ln a0 a1 σ h))
  intro p e s m args below meth c S hT hnw
  refine List.forall_mem_cons.mpr ⟨sw_cokV S hT hnw (mX2_kind hG) 71 2 (by decide) ⟨by decide +kernel, by decide +kernel, by decide +kernel, by decide +kernel, by decide +kernel⟩ ⟨rfl, by decide, by decide, by decide +kernel⟩ ⟨rfl, rfl⟩ ⟨by decide, by decide⟩, ?_⟩
  refine List.forall_mem_cons.mpr ⟨sw_cokV S hT hnw (mX2_streamNumber hG) 53 2 (by decide) ⟨by decide +kernel, by decide +kernel, by decide +kernel, by decide +kernel, by decide +kernel⟩ ⟨rfl, by decide, by decide, by decide +kernel⟩ ⟨rfl, rfl⟩ ⟨by decide, by decide⟩, ?_⟩
  refine List.forall_mem_cons.mpr ⟨sw_cokV S hT hnw (mX2_number hG) 61 2 (by decide) ⟨by decide +kernel, by decide +kernel, by decide +kernel, by decide +kernel, by decide +kernel⟩ ⟨rfl, by decide, by decide, by decide +kernel⟩ ⟨rfl, rfl⟩ ⟨by decide, by decide⟩, ?_⟩
  refine List.forall_mem_cons.mpr ⟨sw_cokV S hT hnw (mX2_count hG) 74 2 (by decide) ⟨by decide +kernel, by decide +kernel, by decide +kernel, by decide +kernel, by decide +kernel⟩ ⟨rfl, by decide, by decide, by decide +kernel⟩ ⟨rfl, rfl⟩ ⟨by decide, by decide⟩, ?_⟩
  refine List.forall_mem_cons.mpr ⟨sw_cokV S hT hnw (mX2_areMarksSound hG) 80 2 (by decide) ⟨by decide +kernel, by decide +kernel, by decide +kernel, by decide +kernel, by decide +kernel⟩ ⟨rfl, by decide, by decide, by decide +kernel⟩ ⟨rfl, rfl⟩ ⟨by decide, by decide⟩, ?_⟩
  refine List.forall_mem_cons.mpr ⟨sw_cokV S hT hnw (mX2_granted hG) 84 2 (by decide) ⟨by decide +kernel, by decide +kernel, by decide +kernel, by decide +kernel, by decide +kernel⟩ ⟨rfl, by decide, by decide, by decide +kernel⟩ ⟨rfl, rfl⟩ ⟨by decide, by decide⟩, ?_⟩
  exact fun q h => absurd h List.not_mem_nil
def fr_so (σ : sw_S) (k q : Nat) : Int32 :=
  if σ 2 k 1 = fr_lt σ k then (if fr_at σ k (fr_rl σ k) = sm (fr_at σ k) (fr_rl σ k).toNatClampNeg then (if σ 4 q 0 ≤ fr_sn σ k then 0 else if σ 4 q 2 < fr_nu σ k then 0 else if σ 4 q 2 < fr_wa σ k then 0 else if fr_sk σ k q = 0 then 0 else 1) else 0) else 0
def gX2_isSound (ln : sw_A) (k q : Nat) (σ : sw_S) : sw_X := (fr_ok ln k σ ∧ 0 ≤ fr_rl σ k, some (.inl (fr_so σ k q)), σ)
def fX2_isSound (ln : sw_A) : sw_F := sw_foo 2 4 (gX2_isSound ln)
def ctX2_isSound (ln : sw_A) : sw_C := [(50, 1, 3, fX2_lengthTold ln), (47, 2, 3, fX2_wordAt ln), (32, 2, 3, fX2_sumBefore ln), (53, 1, 3, fX2_streamNumber ln), (61, 1, 3, fX2_number ln), (36, 1, 3, fX2_wanted ln), (67, 2, 3, fX2_isSoundForKind ln)]
abbrev wX2_isSound (ln : sw_A) (Q : Option sw_V → sw_S → Prop) : Nat → Nat → sw_L → List sw_V → sw_S → Prop := sw_wp sw_rf ln (ctX2_isSound ln) sX2_isSound 2 80 tX2_isSound Q
theorem hX2_isSound (ln : sw_A) (k q : Nat) (σ : sw_S) (h : (gX2_isSound ln k q σ).1) : ∃ fuel, wX2_isSound ln (sw_end (gX2_isSound ln k q σ)) fuel 0 (sw_ent 2 [.inr (some (2, k)), .inr (some (4, q))]) [] σ := by
  obtain ⟨h, hl⟩ := h
  refine ⟨60, And.intro h (And.intro (fun (a1 : ¬ σ 2 k 1 = fr_lt σ k) => ⟨Or.inl rfl, sw_ri ?_, rfl⟩) (fun (a1 : σ 2 k 1 = fr_lt σ k) => And.intro h (And.intro ⟨h, hl⟩ (And.intro (fun (a2 : ¬ fr_at σ k (fr_rl σ k) = sm (fr_at σ k) (fr_rl σ k).toNatClampNeg) => ⟨Or.inl rfl, sw_ri ?_, rfl⟩) (fun (a2 : fr_at σ k (fr_rl σ k) = sm (fr_at σ k) (fr_rl σ k).toNatClampNeg) => And.intro h (And.intro (fun (a3 : σ 4 q 0 ≤ fr_sn σ k) => ⟨Or.inl rfl, sw_ri ?_, rfl⟩) (fun (a3 : ¬ σ 4 q 0 ≤ fr_sn σ k) => And.intro h (And.intro (fun (a4 : σ 4 q 2 < fr_nu σ k) => ⟨Or.inl rfl, sw_ri ?_, rfl⟩) (fun (a4 : ¬ σ 4 q 2 < fr_nu σ k) => And.intro h (And.intro (fun (a5 : σ 4 q 2 < fr_wa σ k) => ⟨Or.inl rfl, sw_ri ?_, rfl⟩) (fun (a5 : ¬ σ 4 q 2 < fr_wa σ k) => And.intro h (And.intro (fun (a6 : fr_sk σ k q = 0) => ⟨Or.inl rfl, sw_ri ?_, rfl⟩) (fun (a6 : ¬ fr_sk σ k q = 0) => ⟨Or.inr rfl, sw_ri ?_, rfl⟩)))))))))))))⟩
  · unfold fr_so; rw [if_neg a1]
  · unfold fr_so; rw [if_pos a1, if_neg a2]
  · unfold fr_so; rw [if_pos a1, if_pos a2, if_pos a3]
  · unfold fr_so; rw [if_pos a1, if_pos a2, if_neg a3, if_pos a4]
  · unfold fr_so; rw [if_pos a1, if_pos a2, if_neg a3, if_neg a4, if_pos a5]
  · unfold fr_so; rw [if_pos a1, if_pos a2, if_neg a3, if_neg a4, if_neg a5, if_pos a6]
  · unfold fr_so; rw [if_pos a1, if_pos a2, if_neg a3, if_neg a4, if_neg a5, if_neg a6]
set_option maxRecDepth 100000 in
theorem mX2_isSound {l : Launch} {ad : sw_A} {V : Nat → Nat → Prop} {ln : sw_A} {ca : Nat → ClassId} {D : va_G} (hG : sw_wf ad V sw_rf ln) : sw_met l ad V sw_rf ln ca D yX2_isSound cX2_isSound 2 (some .boolean) { frames := 4, cells := 0, slots := 0, locals := 84 } 2 (fX2_isSound ln) := by
  refine sw_meth hG (by decide) (by refine ⟨?_, ?_, ?_, ?_⟩ <;> intro h <;> first | rfl | exact ⟨_, rfl⟩ | exact absurd h (by decide)) (by decide) kX2_isSound flX2_in cnX2_in ?_ (sw_foo_h (W := fun Q L σ => ∃ fuel, wX2_isSound ln Q fuel 0 L [] σ) (fun a0 a1 σ h => hX2_isSound ln a0 a1 σ h))
  intro p e s m args below meth c S hT hnw
  refine List.forall_mem_cons.mpr ⟨sw_cokV S hT hnw (mX2_lengthTold hG) 50 2 (by decide) ⟨by decide +kernel, by decide +kernel, by decide +kernel, by decide +kernel, by decide +kernel⟩ ⟨rfl, by decide, by decide, by decide +kernel⟩ ⟨rfl, rfl⟩ ⟨by decide, by decide⟩, ?_⟩
  refine List.forall_mem_cons.mpr ⟨sw_cokV S hT hnw (mX2_wordAt hG) 47 2 (by decide) ⟨by decide +kernel, by decide +kernel, by decide +kernel, by decide +kernel, by decide +kernel⟩ ⟨rfl, by decide, by decide, by decide +kernel⟩ ⟨rfl, rfl⟩ ⟨by decide, by decide⟩, ?_⟩
  refine List.forall_mem_cons.mpr ⟨sw_cokV S hT hnw (mX2_sumBefore hG) 32 2 (by decide) ⟨by decide +kernel, by decide +kernel, by decide +kernel, by decide +kernel, by decide +kernel⟩ ⟨rfl, by decide, by decide, by decide +kernel⟩ ⟨rfl, rfl⟩ ⟨by decide, by decide⟩, ?_⟩
  refine List.forall_mem_cons.mpr ⟨sw_cokV S hT hnw (mX2_streamNumber hG) 53 2 (by decide) ⟨by decide +kernel, by decide +kernel, by decide +kernel, by decide +kernel, by decide +kernel⟩ ⟨rfl, by decide, by decide, by decide +kernel⟩ ⟨rfl, rfl⟩ ⟨by decide, by decide⟩, ?_⟩
  refine List.forall_mem_cons.mpr ⟨sw_cokV S hT hnw (mX2_number hG) 61 2 (by decide) ⟨by decide +kernel, by decide +kernel, by decide +kernel, by decide +kernel, by decide +kernel⟩ ⟨rfl, by decide, by decide, by decide +kernel⟩ ⟨rfl, rfl⟩ ⟨by decide, by decide⟩, ?_⟩
  refine List.forall_mem_cons.mpr ⟨sw_cokV S hT hnw (mX2_wanted hG) 36 2 (by decide) ⟨by decide +kernel, by decide +kernel, by decide +kernel, by decide +kernel, by decide +kernel⟩ ⟨rfl, by decide, by decide, by decide +kernel⟩ ⟨rfl, rfl⟩ ⟨by decide, by decide⟩, ?_⟩
  refine List.forall_mem_cons.mpr ⟨sw_cokV S hT hnw (mX2_isSoundForKind hG) 67 2 (by decide) ⟨by decide +kernel, by decide +kernel, by decide +kernel, by decide +kernel, by decide +kernel⟩ ⟨rfl, by decide, by decide, by decide +kernel⟩ ⟨rfl, rfl⟩ ⟨by decide, by decide⟩, ?_⟩
  exact fun q h => absurd h List.not_mem_nil
