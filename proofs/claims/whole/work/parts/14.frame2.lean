/-! Frame: the rest -/
theorem sw_upk (σ : sw_S) {c k j c' k' j' : Nat} {v : Int32} (h : ¬ c' = c) : sw_up σ c k j v c' k' j' = σ c' k' j' := if_neg (fun z => h z.1)
theorem sw_ushr_N {n : Nat} (hn : n < 2 ^ 32) (s : Int32) (k : Nat) (hs : ((s.toUInt32 &&& Int32.toUInt32 31).toBitVec % 32).toNat = k) : sw_ushr (nI n) s = nI (n / 2 ^ k) := pk_ushrN hn s k hs
theorem sw_nI_all (x : Int32) : ∃ n : Nat, n < 2 ^ 32 ∧ x = nI n := by
  refine ⟨x.toBitVec.toNat, x.toBitVec.isLt, ?_⟩
  apply Int32.toBitVec_inj.mp
  apply BitVec.eq_of_toNat_eq
  rw [pk_tn x.toBitVec.isLt]
theorem sw_ushr24 (x : Int32) : ∃ n : Nat, n < 256 ∧ sw_ushr x 24 = nI n := by
  obtain ⟨n, hn, rfl⟩ := sw_nI_all x
  exact ⟨n / 2 ^ 24, by omega, sw_ushr_N hn 24 24 (by decide)⟩
abbrev fr_kd (σ : sw_S) (k : Nat) : Int32 := fr_at σ k 0 &&& 7
abbrev fr_sn (σ : sw_S) (k : Nat) : Int32 := sw_ushr (fr_at σ k 0) 3 &&& 31
abbrev fr_nu (σ : sw_S) (k : Nat) : Int32 := sw_ushr (fr_at σ k 0) 8 &&& 255
abbrev fr_wa (σ : sw_S) (k : Nat) : Int32 := sw_ushr (fr_at σ k 0) 16 &&& 255
abbrev fr_ct (σ : sw_S) (k : Nat) : Int32 := sw_ushr (fr_at σ k 0) 24
def gX2_seal (ln : sw_A) (k : Nat) (σ : sw_S) : sw_X := (fr_ok ln k σ ∧ 0 ≤ σ 2 k 1, none, (gX2_put ln k (sm (fr_at σ k) (σ 2 k 1).toNatClampNeg) σ).2.2)
def fX2_seal (ln : sw_A) : sw_F := sw_fo 2 (gX2_seal ln)
def ctX2_seal (ln : sw_A) : sw_C := [(32, 2, 3, fX2_sumBefore ln), (25, 2, 3, fX2_put ln)]
abbrev wX2_seal (ln : sw_A) (Q : Option sw_V → sw_S → Prop) : Nat → Nat → sw_L → List sw_V → sw_S → Prop := sw_wp sw_rf ln (ctX2_seal ln) sX2_seal 0 12 tX2_seal Q
theorem hX2_seal (ln : sw_A) (k : Nat) (σ : sw_S) (h : (gX2_seal ln k σ).1) : ∃ fuel, wX2_seal ln (sw_end (gX2_seal ln k σ)) fuel 0 (sw_ent 1 [.inr (some (2, k))]) [] σ :=
  ⟨20, And.intro h (And.intro ⟨h.2, h.1.2⟩ ⟨rfl, rfl⟩)⟩
set_option maxRecDepth 100000 in
theorem mX2_seal {l : Launch} {ad : sw_A} {V : Nat → Nat → Prop} {ln : sw_A} {ca : Nat → ClassId} {D : va_G} (hG : sw_wf ad V sw_rf ln) : sw_met l ad V sw_rf ln ca D yX2_seal cX2_seal 1 none { frames := 2, cells := 0, slots := 0, locals := 46 } 1 (fX2_seal ln) := by
  refine sw_meth hG (by decide) (by refine ⟨?_, ?_, ?_, ?_⟩ <;> intro h <;> first | rfl | exact ⟨_, rfl⟩ | exact absurd h (by decide)) (by decide) kX2_seal flX2_in cnX2_in ?_ (sw_fo_h (W := fun Q L σ => ∃ fuel, wX2_seal ln Q fuel 0 L [] σ) (fun a0 σ h => hX2_seal ln a0 σ h))
  intro p e s m args below meth c S hT hnw
  refine List.forall_mem_cons.mpr ⟨sw_cokV S hT hnw (mX2_sumBefore hG) 32 2 (by decide) ⟨by decide +kernel, by decide +kernel, by decide +kernel, by decide +kernel, by decide +kernel⟩ ⟨rfl, by decide, by decide, by decide +kernel⟩ ⟨rfl, rfl⟩ ⟨by decide, by decide⟩, ?_⟩
  refine List.forall_mem_cons.mpr ⟨sw_cokV S hT hnw (mX2_put hG) 25 2 (by decide) ⟨by decide +kernel, by decide +kernel, by decide +kernel, by decide +kernel, by decide +kernel⟩ ⟨rfl, by decide, by decide, by decide +kernel⟩ ⟨rfl, rfl⟩ ⟨by decide, by decide⟩, ?_⟩
  exact fun q h => absurd h List.not_mem_nil
def fr_rf (ln : sw_A) (k : Nat) (x : Int32) (σ : sw_S) : sw_S := (gX2_flip ln k 0 ((fr_wa σ k ^^^ x) <<< (16 &&& 31)) σ).2.2
def fr_rl (s : sw_S) (k : Nat) : Int32 := s 2 k 1 - 1
def fr_re (ln : sw_A) (k : Nat) (x : Int32) (σ : sw_S) : sw_S := sw_up (fr_rf ln k x σ) 2 k 1 (if 0 < fr_rl (fr_rf ln k x σ) k then fr_rl (fr_rf ln k x σ) k else 0)
def gX2_renew (ln : sw_A) (k : Nat) (x : Int32) (σ : sw_S) : sw_X := (fr_ok ln k σ ∧ (gX2_seal ln k (fr_re ln k x σ)).1, none, (gX2_seal ln k (fr_re ln k x σ)).2.2)
def fX2_renew (ln : sw_A) : sw_F := sw_foi 2 (gX2_renew ln)
def ctX2_renew (ln : sw_A) : sw_C := [(36, 1, 3, fX2_wanted ln), (40, 3, 3, fX2_flip ln), (9, 2, 0, sw_max), (44, 1, 3, fX2_seal ln)]
abbrev wX2_renew (ln : sw_A) (Q : Option sw_V → sw_S → Prop) : Nat → Nat → sw_L → List sw_V → sw_S → Prop := sw_wp sw_rf ln (ctX2_renew ln) sX2_renew 0 33 tX2_renew Q
theorem hX2_renew (ln : sw_A) (k : Nat) (x : Int32) (σ : sw_S) (h : (gX2_renew ln k x σ).1) : ∃ fuel, wX2_renew ln (sw_end (gX2_renew ln k x σ)) fuel 0 (sw_ent 2 [.inr (some (2, k)), .inl x]) [] σ :=
  ⟨40, And.intro h.1 (And.intro h.1 (And.intro trivial (And.intro h.2 ⟨rfl, rfl⟩)))⟩
set_option maxRecDepth 100000 in
theorem mX2_renew {l : Launch} {ad : sw_A} {V : Nat → Nat → Prop} {ln : sw_A} {ca : Nat → ClassId} {D : va_G} (hG : sw_wf ad V sw_rf ln) : sw_met l ad V sw_rf ln ca D yX2_renew cX2_renew 2 none { frames := 3, cells := 0, slots := 0, locals := 66 } 2 (fX2_renew ln) := by
  refine sw_meth hG (by decide) (by refine ⟨?_, ?_, ?_, ?_⟩ <;> intro h <;> first | rfl | exact ⟨_, rfl⟩ | exact absurd h (by decide)) (by decide) kX2_renew flX2_in cnX2_in ?_ (sw_foi_h (W := fun Q L σ => ∃ fuel, wX2_renew ln Q fuel 0 L [] σ) (fun a0 a1 σ h => hX2_renew ln a0 a1 σ h))
  intro p e s m args below meth c S hT hnw
  refine List.forall_mem_cons.mpr ⟨sw_cokV S hT hnw (mX2_wanted hG) 36 2 (by decide) ⟨by decide +kernel, by decide +kernel, by decide +kernel, by decide +kernel, by decide +kernel⟩ ⟨rfl, by decide, by decide, by decide +kernel⟩ ⟨rfl, rfl⟩ ⟨by decide, by decide⟩, ?_⟩
  refine List.forall_mem_cons.mpr ⟨sw_cokV S hT hnw (mX2_flip hG) 40 2 (by decide) ⟨by decide +kernel, by decide +kernel, by decide +kernel, by decide +kernel, by decide +kernel⟩ ⟨rfl, by decide, by decide, by decide +kernel⟩ ⟨rfl, rfl⟩ ⟨by decide, by decide⟩, ?_⟩
  refine List.forall_mem_cons.mpr ⟨sw_cokX S 9 (by decide +kernel) ⟨by decide, by decide⟩, ?_⟩
  refine List.forall_mem_cons.mpr ⟨sw_cokV S hT hnw (mX2_seal hG) 44 2 (by decide) ⟨by decide +kernel, by decide +kernel, by decide +kernel, by decide +kernel, by decide +kernel⟩ ⟨rfl, by decide, by decide, by decide +kernel⟩ ⟨rfl, rfl⟩ ⟨by decide, by decide⟩, ?_⟩
  exact fun q h => absurd h List.not_mem_nil
def fr_cp (k o : Nat) : Nat → sw_S → sw_S
  | 0, σ => σ
  | n + 1, σ => sw_up (fr_cp k o n σ) 12 k (nI n).toNatClampNeg (fr_cp k o n σ 12 o (nI n).toNatClampNeg)
theorem fr_cp_k (k o : Nat) {c : Nat} (hc : ¬ c = 12) (k' j' : Nat) : ∀ (n : Nat) (σ : sw_S), fr_cp k o n σ c k' j' = σ c k' j'
  | 0, _ => rfl
  | n + 1, σ => (sw_upk _ hc).trans (fr_cp_k k o hc k' j' n σ)
def fr_cl (ln : sw_A) (k o : Nat) (σ : sw_S) : Int32 := if σ 2 o 1 < nI (ln 12 k) then σ 2 o 1 else nI (ln 12 k)
def gX2_copyFrom (ln : sw_A) (k o : Nat) (σ : sw_S) : sw_X := (0 ≤ σ 2 o 1 ∧ fr_ok ln o σ ∧ ln 12 k < 2 ^ 31, none, fr_cp k o (fr_cl ln k o σ).toNatClampNeg (sw_up σ 2 k 1 (fr_cl ln k o σ)))
def fX2_copyFrom (ln : sw_A) : sw_F := sw_foo 2 2 (gX2_copyFrom ln)
def ctX2_copyFrom (ln : sw_A) : sw_C := [(29, 2, 0, sw_min)]
abbrev wX2_copyFrom (ln : sw_A) (Q : Option sw_V → sw_S → Prop) : Nat → Nat → sw_L → List sw_V → sw_S → Prop := sw_wp sw_rf ln (ctX2_copyFrom ln) sX2_copyFrom 0 44 tX2_copyFrom Q
theorem hX2_copyFrom_l (ln : sw_A) (k o n : Nat) (σ : sw_S) (X : sw_X) (hn : n < 2 ^ 31) (h1 : σ 2 k 1 = nI n) (hX : X.2 = (none, fr_cp k o n σ)) (hk : n ≤ ln 12 k) (ho : n ≤ ln 12 o) (hk2 : ln 12 k < 2 ^ 31) (ho2 : ln 12 o < 2 ^ 31) : ∀ (d j : Nat), j + d = n → ∃ fuel, wX2_copyFrom ln (sw_end X) fuel 18 [some (.inr (some (2, k))), some (.inr (some (2, o))), some (.inl (nI j))] [] (fr_cp k o j σ) := by
  intro d
  induction d with
  | zero =>
    intro j hj
    have hj : j = n := by omega
    subst hj
    have hl : fr_cp k o j σ 2 k 1 = nI j := (fr_cp_k k o (by decide) k 1 j σ).trans h1
    refine ⟨20, And.intro (fun _ => ?_) (fun (h : ¬ fr_cp k o j σ 2 k 1 ≤ nI j) => absurd (by rw [hl]; exact Int32.le_refl _) h)⟩
    show none = X.2.1 ∧ fr_cp k o j σ = X.2.2
    rw [hX]
    exact ⟨rfl, rfl⟩
  | succ d ih =>
    intro j hj
    have hl : fr_cp k o j σ 2 k 1 = nI n := (fr_cp_k k o (by decide) k 1 j σ).trans h1
    obtain ⟨f, hf⟩ := ih (j + 1) (by omega)
    rw [← nI_1] at hf
    have v1 : vp_in (nI j) (ln 12 o) := vp_in_nI (by omega) ho2
    have v2 : vp_in (nI j) (ln 12 k) := vp_in_nI (by omega) hk2
    refine ⟨f + 30, sw_ws_wp [18] f 30 _ _ _ _ ?_⟩
    refine And.intro (fun (h : fr_cp k o j σ 2 k 1 ≤ nI j) => absurd (by rw [← hl]; exact h) (nI_ge (a := j) (b := n) (by omega) hn)) (fun _ => And.intro v1 (And.intro v2 ?_))
    exact hf
theorem hX2_copyFrom (ln : sw_A) (k o : Nat) (σ : sw_S) (h : (gX2_copyFrom ln k o σ).1) : ∃ fuel, wX2_copyFrom ln (sw_end (gX2_copyFrom ln k o σ)) fuel 0 (sw_ent 3 [.inr (some (2, k)), .inr (some (2, o))]) [] σ := by
  obtain ⟨h0, ⟨h1, h2⟩, h3⟩ := h
  have hle : 0 ≤ fr_cl ln k o σ := by
    unfold fr_cl
    split
    · exact h0
    · exact nI_pos' h3
  obtain ⟨n, hn, hcl⟩ := nI_of (Int32.not_lt.mpr hle)
  have hk : n ≤ ln 12 k := by
    have : fr_cl ln k o σ ≤ nI (ln 12 k) := by
      unfold fr_cl
      split
      · rename_i z; exact Int32.le_of_lt z
      · exact Int32.le_refl _
    rw [hcl, nI_leI hn h3] at this
    exact this
  have ho : n ≤ ln 12 o := by
    have : fr_cl ln k o σ ≤ nI (ln 12 o) := by
      unfold fr_cl
      split
      · exact h1
      · rename_i z; exact Int32.le_trans (Int32.not_lt.mp z) h1
    rw [hcl, nI_leI hn h2] at this
    exact this
  have e1 : (gX2_copyFrom ln k o σ).2 = (none, fr_cp k o n (sw_up σ 2 k 1 (nI n))) := by
    unfold gX2_copyFrom
    rw [hcl, nI_clamp hn]
  obtain ⟨f, hf⟩ := hX2_copyFrom_l ln k o n (sw_up σ 2 k 1 (nI n)) (gX2_copyFrom ln k o σ) hn (if_pos ⟨rfl, rfl, rfl⟩) e1 hk ho h3 h2 n 0 (by omega)
  rw [← hcl] at hf
  refine ⟨f + 20, sw_ws_wp [18] f 20 _ _ _ _ ?_⟩
  exact And.intro trivial hf
set_option maxRecDepth 100000 in
theorem mX2_copyFrom {l : Launch} {ad : sw_A} {V : Nat → Nat → Prop} {ln : sw_A} {ca : Nat → ClassId} {D : va_G} (hG : sw_wf ad V sw_rf ln) : sw_met l ad V sw_rf ln ca D yX2_copyFrom cX2_copyFrom 3 none { frames := 1, cells := 0, slots := 0, locals := 21 } 2 (fX2_copyFrom ln) := by
  refine sw_meth hG (by decide) (by refine ⟨?_, ?_, ?_, ?_⟩ <;> intro h <;> first | rfl | exact ⟨_, rfl⟩ | exact absurd h (by decide)) (by decide) kX2_copyFrom flX2_in cnX2_in ?_ (sw_foo_h (W := fun Q L σ => ∃ fuel, wX2_copyFrom ln Q fuel 0 L [] σ) (fun a0 a1 σ h => hX2_copyFrom ln a0 a1 σ h))
  intro p e s m args below meth c S hT hnw
  refine List.forall_mem_cons.mpr ⟨sw_cokM S 29 (by decide +kernel) ⟨by decide, by decide⟩, ?_⟩
  exact fun q h => absurd h List.not_mem_nil
def fr_lt (σ : sw_S) (k : Nat) : Int32 := if fr_kd σ k = 1 then 3 + fr_ct σ k else if fr_kd σ k = 2 then 3 else 2
def gX2_lengthTold (ln : sw_A) (k : Nat) (σ : sw_S) : sw_X := (fr_ok ln k σ, some (.inl (fr_lt σ k)), σ)
def fX2_lengthTold (ln : sw_A) : sw_F := sw_fo 2 (gX2_lengthTold ln)
def ctX2_lengthTold (ln : sw_A) : sw_C := [(71, 1, 3, fX2_kind ln), (74, 1, 3, fX2_count ln)]
abbrev wX2_lengthTold (ln : sw_A) (Q : Option sw_V → sw_S → Prop) : Nat → Nat → sw_L → List sw_V → sw_S → Prop := sw_wp sw_rf ln (ctX2_lengthTold ln) sX2_lengthTold 1 42 tX2_lengthTold Q
theorem hX2_lengthTold (ln : sw_A) (k : Nat) (σ : sw_S) (h : (gX2_lengthTold ln k σ).1) : ∃ fuel, wX2_lengthTold ln (sw_end (gX2_lengthTold ln k σ)) fuel 0 (sw_ent 1 [.inr (some (2, k))]) [] σ := by
  refine ⟨20, And.intro h (And.intro (fun (h1 : fr_kd σ k = 1) => And.intro h ⟨sw_ri ?_, rfl⟩) (fun (h1 : ¬ fr_kd σ k = 1) => And.intro (fun (h2 : fr_kd σ k = 2) => ⟨sw_ri ?_, rfl⟩) (fun (h2 : ¬ fr_kd σ k = 2) => ⟨sw_ri ?_, rfl⟩)))⟩
  · exact (if_pos h1).symm
  · exact ((if_neg h1).trans (if_pos h2)).symm
  · exact ((if_neg h1).trans (if_neg h2)).symm
set_option maxRecDepth 100000 in
theorem mX2_lengthTold {l : Launch} {ad : sw_A} {V : Nat → Nat → Prop} {ln : sw_A} {ca : Nat → ClassId} {D : va_G} (hG : sw_wf ad V sw_rf ln) : sw_met l ad V sw_rf ln ca D yX2_lengthTold cX2_lengthTold 1 (some .int) { frames := 2, cells := 0, slots := 0, locals := 41 } 1 (fX2_lengthTold ln) := by
  refine sw_meth hG (by decide) (by refine ⟨?_, ?_, ?_, ?_⟩ <;> intro h <;> first | rfl | exact ⟨_, rfl⟩ | exact absurd h (by decide)) (by decide) kX2_lengthTold flX2_in cnX2_in ?_ (sw_fo_h (W := fun Q L σ => ∃ fuel, wX2_lengthTold ln Q fuel 0 L [] σ) (fun a0 σ h => hX2_lengthTold ln a0 σ h))
  intro p e s m args below meth c S hT hnw
  refine List.forall_mem_cons.mpr ⟨sw_cokV S hT hnw (mX2_kind hG) 71 2 (by decide) ⟨by decide +kernel, by decide +kernel, by decide +kernel, by decide +kernel, by decide +kernel⟩ ⟨rfl, by decide, by decide, by decide +kernel⟩ ⟨rfl, rfl⟩ ⟨by decide, by decide⟩, ?_⟩
  refine List.forall_mem_cons.mpr ⟨sw_cokV S hT hnw (mX2_count hG) 74 2 (by decide) ⟨by decide +kernel, by decide +kernel, by decide +kernel, by decide +kernel, by decide +kernel⟩ ⟨rfl, by decide, by decide, by decide +kernel⟩ ⟨rfl, rfl⟩ ⟨by decide, by decide⟩, ?_⟩
  exact fun q h => absurd h List.not_mem_nil
def fr_ms (σ : sw_S) (k : Nat) : Nat → Nat → Int32
  | 0, _ => 1
  | d + 1, j => if fr_mk σ k (nI j) = 0 then fr_ms σ k d (j + 1) else if fr_at σ k (2 + nI j) = 0 then fr_ms σ k d (j + 1) else 0
def fr_am (σ : sw_S) (k : Nat) : Int32 := if sw_ushr (fr_at σ k 1) (fr_ct σ k) = 0 then fr_ms σ k (fr_ct σ k).toNatClampNeg 0 else 0
def gX2_areMarksSound (ln : sw_A) (k : Nat) (σ : sw_S) : sw_X := (fr_ok ln k σ, some (.inl (fr_am σ k)), σ)
def fX2_areMarksSound (ln : sw_A) : sw_F := sw_fo 2 (gX2_areMarksSound ln)
def ctX2_areMarksSound (ln : sw_A) : sw_C := [(47, 2, 3, fX2_wordAt ln), (74, 1, 3, fX2_count ln), (87, 2, 3, fX2_isMark ln), (91, 2, 3, fX2_itemWord ln)]
abbrev wX2_areMarksSound (ln : sw_A) (Q : Option sw_V → sw_S → Prop) : Nat → Nat → sw_L → List sw_V → sw_S → Prop := sw_wp sw_rf ln (ctX2_areMarksSound ln) sX2_areMarksSound 2 50 tX2_areMarksSound Q
theorem hX2_areMarksSound_l (ln : sw_A) (k n : Nat) (σ : sw_S) (X : sw_X) (hn : n < 2 ^ 31) (hk : fr_ok ln k σ) (hc : fr_ct σ k = nI n) : ∀ (d j : Nat), j + d = n → X.2 = (some (.inl (fr_ms σ k d j)), σ) → ∃ fuel, wX2_areMarksSound ln (sw_end X) fuel 17 [some (.inr (some (2, k))), some (.inl (nI j))] [] σ := by
  intro d
  induction d with
  | zero =>
    intro j hj hX
    have hj : j = n := by omega
    subst hj
    refine ⟨20, And.intro hk (And.intro (fun _ => ?_) (fun (h : ¬ fr_ct σ k ≤ nI j) => absurd (by rw [hc]; exact Int32.le_refl _) h))⟩
    refine ⟨Or.inr rfl, ?_⟩
    show some _ = X.2.1 ∧ σ = X.2.2
    rw [hX]
    exact ⟨rfl, rfl⟩
  | succ d ih =>
    intro j hj hX
    by_cases hm : fr_mk σ k (nI j) = 0
    · obtain ⟨f, hf⟩ := ih (j + 1) (by omega) (by rw [hX]; exact congrArg (fun z => (some (Sum.inl z), σ)) (if_pos hm))
      rw [← nI_1] at hf
      refine ⟨f + 30, sw_ws_wp [17] f 30 _ _ _ _ ?_⟩
      refine And.intro hk (And.intro (fun (h : fr_ct σ k ≤ nI j) => absurd (by rw [← hc]; exact h) (nI_ge (a := j) (b := n) (by omega) hn)) (fun _ => And.intro hk (And.intro (fun _ => hf) (fun z => absurd hm z))))
    · by_cases hw : fr_at σ k (2 + nI j) = 0
      · obtain ⟨f, hf⟩ := ih (j + 1) (by omega) (by rw [hX]; exact congrArg (fun z => (some (Sum.inl z), σ)) ((if_neg hm).trans (if_pos hw)))
        rw [← nI_1] at hf
        refine ⟨f + 30, sw_ws_wp [17] f 30 _ _ _ _ ?_⟩
        refine And.intro hk (And.intro (fun (h : fr_ct σ k ≤ nI j) => absurd (by rw [← hc]; exact h) (nI_ge (a := j) (b := n) (by omega) hn)) (fun _ => And.intro hk (And.intro (fun z => absurd z hm) (fun _ => And.intro hk (And.intro (fun _ => hf) (fun z => absurd hw z))))))
      · refine ⟨30, And.intro hk (And.intro (fun (h : fr_ct σ k ≤ nI j) => absurd (by rw [← hc]; exact h) (nI_ge (a := j) (b := n) (by omega) hn)) (fun _ => And.intro hk (And.intro (fun z => absurd z hm) (fun _ => And.intro hk (And.intro (fun z => absurd z hw) (fun _ => ?_))))))⟩
        refine ⟨Or.inl rfl, ?_⟩
        show some _ = X.2.1 ∧ σ = X.2.2
        rw [hX]
        exact ⟨sw_ri ((if_neg hm).trans (if_neg hw)).symm, rfl⟩
theorem hX2_areMarksSound (ln : sw_A) (k : Nat) (σ : sw_S) (h : (gX2_areMarksSound ln k σ).1) : ∃ fuel, wX2_areMarksSound ln (sw_end (gX2_areMarksSound ln k σ)) fuel 0 (sw_ent 2 [.inr (some (2, k))]) [] σ := by
  by_cases h1 : sw_ushr (fr_at σ k 1) (fr_ct σ k) = 0
  · obtain ⟨n, hn, hc⟩ := sw_ushr24 (fr_at σ k 0)
    have hn2 : n < 2 ^ 31 := by omega
    obtain ⟨f, hf⟩ := hX2_areMarksSound_l ln k n σ (gX2_areMarksSound ln k σ) hn2 h hc n 0 (by omega) (by
      show (some (Sum.inl (fr_am σ k)), σ) = _
      unfold fr_am
      rw [if_pos h1]
      show (some (Sum.inl (fr_ms σ k (sw_ushr (fr_at σ k 0) 24).toNatClampNeg 0)), σ) = _
      rw [hc, nI_clamp hn2])
    refine ⟨f + 20, sw_ws_wp [17] f 20 _ _ _ _ ?_⟩
    exact And.intro h (And.intro h (And.intro (fun _ => hf) (fun z => absurd h1 z)))
  · refine ⟨20, And.intro h (And.intro h (And.intro (fun z => absurd z h1) (fun _ => ⟨Or.inl rfl, sw_ri ?_, rfl⟩)))⟩
    exact (if_neg h1).symm
set_option maxRecDepth 100000 in
theorem mX2_areMarksSound {l : Launch} {ad : sw_A} {V : Nat → Nat → Prop} {ln : sw_A} {ca : Nat → ClassId} {D : va_G} (hG : sw_wf ad V sw_rf ln) : sw_met l ad V sw_rf ln ca D yX2_areMarksSound cX2_areMarksSound 2 (some .boolean) { frames := 2, cells := 0, slots := 0, locals := 42 } 1 (fX2_areMarksSound ln) := by
  refine sw_meth hG (by decide) (by refine ⟨?_, ?_, ?_, ?_⟩ <;> intro h <;> first | rfl | exact ⟨_, rfl⟩ | exact absurd h (by decide)) (by decide) kX2_areMarksSound flX2_in cnX2_in ?_ (sw_fo_h (W := fun Q L σ => ∃ fuel, wX2_areMarksSound ln Q fuel 0 L [] σ) (fun a0 σ h => hX2_areMarksSound ln a0 σ h))
  intro p e s m args below meth c S hT hnw
  refine List.forall_mem_cons.mpr ⟨sw_cokV S hT hnw (mX2_wordAt hG) 47 2 (by decide) ⟨by decide +kernel, by decide +kernel, by decide +kernel, by decide +kernel, by decide +kernel⟩ ⟨rfl, by decide, by decide, by decide +kernel⟩ ⟨rfl, rfl⟩ ⟨by decide, by decide⟩, ?_⟩
  refine List.forall_mem_cons.mpr ⟨sw_cokV S hT hnw (mX2_count hG) 74 2 (by decide) ⟨by decide +kernel, by decide +kernel, by decide +kernel, by decide +kernel, by decide +kernel⟩ ⟨rfl, by decide, by decide, by decide +kernel⟩ ⟨rfl, rfl⟩ ⟨by decide, by decide⟩, ?_⟩
  refine List.forall_mem_cons.mpr ⟨sw_cokV S hT hnw (mX2_isMark hG) 87 2 (by decide) ⟨by decide +kernel, by decide +kernel, by decide +kernel, by decide +kernel, by decide +kernel⟩ ⟨rfl, by decide, by decide, by decide +kernel⟩ ⟨rfl, rfl⟩ ⟨by decide, by decide⟩, ?_⟩
  refine List.forall_mem_cons.mpr ⟨sw_cokV S hT hnw (mX2_itemWord hG) 91 2 (by decide) ⟨by decide +kernel, by decide +kernel, by decide +kernel, by decide +kernel, by decide +kernel⟩ ⟨rfl, by decide, by decide, by decide +kernel⟩ ⟨rfl, rfl⟩ ⟨by decide, by decide⟩, ?_⟩
  exact fun q h => absurd h List.not_mem_nil
