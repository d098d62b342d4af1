/-! The reference: the frame's parts, losing, spoiling, telling -/
abbrev mo_kd (σ : sw_S) : Int32 := mi σ 38 0 &&& 7
abbrev mo_sn (σ : sw_S) : Int32 := sw_ushr (mi σ 38 0) 3 &&& 31
abbrev mo_ct (σ : sw_S) : Int32 := sw_ushr (mi σ 38 0) 24
def gX8_kind (ln : sw_A) (k : Nat) (σ : sw_S) : sw_X := (mo ln, some (.inl (mo_kd σ)), σ)
def fX8_kind (ln : sw_A) : sw_F := sw_fo 8 (gX8_kind ln)
def ctX8_kind (ln : sw_A) : sw_C := []
abbrev wX8_kind (ln : sw_A) (Q : Option sw_V → sw_S → Prop) : Nat → Nat → sw_L → List sw_V → sw_S → Prop := sw_wp sw_rf ln (ctX8_kind ln) sX8_kind 1 9 tX8_kind Q
theorem hX8_kind (ln : sw_A) (k : Nat) (σ : sw_S) (h : (gX8_kind ln k σ).1) : ∃ fuel, wX8_kind ln (sw_end (gX8_kind ln k σ)) fuel 0 (sw_ent 1 [.inr (some (8, k))]) [] σ :=
  ⟨20, And.intro (mo.i h (j := 38) rfl vp_0_19) ⟨rfl, rfl⟩⟩
set_option maxRecDepth 100000 in
theorem mX8_kind {l : Launch} {ad : sw_A} {V : Nat → Nat → Prop} {ln : sw_A} {ca : Nat → ClassId} {D : va_G} (hG : sw_wf ad V sw_rf ln) : sw_met l ad V sw_rf ln ca D yX8_kind cX8_kind 1 (some .int) { frames := 0, cells := 0, slots := 0, locals := 0 } 1 (fX8_kind ln) := by
  refine sw_meth hG (by decide) (by refine ⟨?_, ?_, ?_, ?_⟩ <;> intro h <;> first | rfl | exact ⟨_, rfl⟩ | exact absurd h (by decide)) (by decide) kX8_kind flX8_in cnX8_in ?_ (sw_fo_h (W := fun Q L σ => ∃ fuel, wX8_kind ln Q fuel 0 L [] σ) (fun a0 σ h => hX8_kind ln a0 σ h))
  intro p e s m args below meth c S hT hnw
  exact fun q h => absurd h List.not_mem_nil
def gX8_streamIn (ln : sw_A) (k : Nat) (σ : sw_S) : sw_X := (mo ln, some (.inl (mo_sn σ)), σ)
def fX8_streamIn (ln : sw_A) : sw_F := sw_fo 8 (gX8_streamIn ln)
def ctX8_streamIn (ln : sw_A) : sw_C := []
abbrev wX8_streamIn (ln : sw_A) (Q : Option sw_V → sw_S → Prop) : Nat → Nat → sw_L → List sw_V → sw_S → Prop := sw_wp sw_rf ln (ctX8_streamIn ln) sX8_streamIn 1 11 tX8_streamIn Q
theorem hX8_streamIn (ln : sw_A) (k : Nat) (σ : sw_S) (h : (gX8_streamIn ln k σ).1) : ∃ fuel, wX8_streamIn ln (sw_end (gX8_streamIn ln k σ)) fuel 0 (sw_ent 1 [.inr (some (8, k))]) [] σ :=
  ⟨20, And.intro (mo.i h (j := 38) rfl vp_0_19) ⟨rfl, rfl⟩⟩
set_option maxRecDepth 100000 in
theorem mX8_streamIn {l : Launch} {ad : sw_A} {V : Nat → Nat → Prop} {ln : sw_A} {ca : Nat → ClassId} {D : va_G} (hG : sw_wf ad V sw_rf ln) : sw_met l ad V sw_rf ln ca D yX8_streamIn cX8_streamIn 1 (some .int) { frames := 0, cells := 0, slots := 0, locals := 0 } 1 (fX8_streamIn ln) := by
  refine sw_meth hG (by decide) (by refine ⟨?_, ?_, ?_, ?_⟩ <;> intro h <;> first | rfl | exact ⟨_, rfl⟩ | exact absurd h (by decide)) (by decide) kX8_streamIn flX8_in cnX8_in ?_ (sw_fo_h (W := fun Q L σ => ∃ fuel, wX8_streamIn ln Q fuel 0 L [] σ) (fun a0 σ h => hX8_streamIn ln a0 σ h))
  intro p e s m args below meth c S hT hnw
  exact fun q h => absurd h List.not_mem_nil
def gX8_countIn (ln : sw_A) (k : Nat) (σ : sw_S) : sw_X := (mo ln, some (.inl (mo_ct σ)), σ)
def fX8_countIn (ln : sw_A) : sw_F := sw_fo 8 (gX8_countIn ln)
def ctX8_countIn (ln : sw_A) : sw_C := []
abbrev wX8_countIn (ln : sw_A) (Q : Option sw_V → sw_S → Prop) : Nat → Nat → sw_L → List sw_V → sw_S → Prop := sw_wp sw_rf ln (ctX8_countIn ln) sX8_countIn 1 9 tX8_countIn Q
theorem hX8_countIn (ln : sw_A) (k : Nat) (σ : sw_S) (h : (gX8_countIn ln k σ).1) : ∃ fuel, wX8_countIn ln (sw_end (gX8_countIn ln k σ)) fuel 0 (sw_ent 1 [.inr (some (8, k))]) [] σ :=
  ⟨20, And.intro (mo.i h (j := 38) rfl vp_0_19) ⟨rfl, rfl⟩⟩
set_option maxRecDepth 100000 in
theorem mX8_countIn {l : Launch} {ad : sw_A} {V : Nat → Nat → Prop} {ln : sw_A} {ca : Nat → ClassId} {D : va_G} (hG : sw_wf ad V sw_rf ln) : sw_met l ad V sw_rf ln ca D yX8_countIn cX8_countIn 1 (some .int) { frames := 0, cells := 0, slots := 0, locals := 0 } 1 (fX8_countIn ln) := by
  refine sw_meth hG (by decide) (by refine ⟨?_, ?_, ?_, ?_⟩ <;> intro h <;> first | rfl | exact ⟨_, rfl⟩ | exact absurd h (by decide)) (by decide) kX8_countIn flX8_in cnX8_in ?_ (sw_fo_h (W := fun Q L σ => ∃ fuel, wX8_countIn ln Q fuel 0 L [] σ) (fun a0 σ h => hX8_countIn ln a0 σ h))
  intro p e s m args below meth c S hT hnw
  exact fun q h => absurd h List.not_mem_nil
theorem vp_1_19 : vp_in 1 19 := vp_in_nI (n := 1) (by decide) (by decide)
def mo_cb (x : Int32) (σ : sw_S) : Int32 := if mi σ 6 x = 0 then 0 else if mb σ 7 x = 0 then 1 else 0
def mo_ca (k : Nat) (x : Int32) (σ : sw_S) : Int32 :=
  if mo_kd σ = 1 then (if mi σ 6 x = 0 then 0 else if mb σ 7 x = 0 then (if σ 8 k 5 - mi σ 19 x - mi σ 9 x < mo_ct σ then 0 else 1) else 0)
  else if mo_kd σ = 2 then (if mi σ 6 x = 0 then 0 else if σ 8 k 5 - mi σ 8 x < mi σ 38 1 then 0 else 1)
  else if mo_kd σ = 3 then (if mb σ 13 x = 0 then 1 else 0)
  else if mo_kd σ = 4 then mo_cb x σ
  else (if mb σ 13 x = 0 then 1 else 0)
def gX8_canBe (ln : sw_A) (k : Nat) (i : Int32) (σ : sw_S) : sw_X := (mo ln ∧ vp_in (mo_ix i (mo_sn σ)) 16, some (.inl (mo_ca k (mo_ix i (mo_sn σ)) σ)), σ)
def fX8_canBe (ln : sw_A) : sw_F := sw_foi 8 (gX8_canBe ln)
def ctX8_canBe (ln : sw_A) : sw_C := [(190, 1, 9, fX8_streamIn ln), (183, 1, 9, fX8_kind ln), (187, 1, 9, fX8_countIn ln)]
abbrev wX8_canBe (ln : sw_A) (Q : Option sw_V → sw_S → Prop) : Nat → Nat → sw_L → List sw_V → sw_S → Prop := sw_wp sw_rf ln (ctX8_canBe ln) sX8_canBe 2 166 tX8_canBe Q
theorem hX8_canBe (ln : sw_A) (k : Nat) (i : Int32) (σ : sw_S) (h : (gX8_canBe ln k i σ).1) : ∃ fuel, wX8_canBe ln (sw_end (gX8_canBe ln k i σ)) fuel 0 (sw_ent 3 [.inr (some (8, k)), .inl i]) [] σ := by
  obtain ⟨hm, hx⟩ := h
  obtain ⟨x, hxe⟩ : ∃ x, x = mo_ix i (mo_sn σ) := ⟨_, rfl⟩
  rw [← hxe] at hx
  have v6 := hm.i (j := 6) rfl hx
  have v7 := hm.z (j := 7) rfl hx
  have v9 := hm.i (j := 9) rfl hx
  have v8 := hm.i (j := 8) rfl hx
  have v19 := hm.i (j := 19) rfl hx
  have v13 := hm.z (j := 13) rfl hx
  have w1 := hm.i (j := 38) rfl vp_1_19
  have key : ∃ M, wX8_canBe ln (sw_end (gX8_canBe ln k i σ)) M 10 [some (.inr (some (8, k))), some (.inl i), some (.inl x)] [] σ := by
    have he : (gX8_canBe ln k i σ).2 = (some (.inl (mo_ca k x σ)), σ) := by rw [hxe]; rfl
    refine ⟨60, And.intro hm (And.intro (fun (h1 : mo_kd σ = 1) => ?_) (fun (n1 : ¬ mo_kd σ = 1) => And.intro (fun (h2 : mo_kd σ = 2) => ?_) (fun (n2 : ¬ mo_kd σ = 2) => And.intro (fun (h3 : mo_kd σ = 3) => ?_) (fun (n3 : ¬ mo_kd σ = 3) => And.intro (fun (h4 : mo_kd σ = 4) => ?_) (fun (n4 : ¬ mo_kd σ = 4) => ?_)))))⟩
    · refine And.intro v6 (And.intro (fun (a1 : mi σ 6 x = 0) => ⟨Or.inl rfl, ?_⟩) (fun (a1 : ¬ mi σ 6 x = 0) => And.intro v7 (And.intro (fun (a2 : ¬ mb σ 7 x = 0) => ⟨Or.inl rfl, ?_⟩) (fun (a2 : mb σ 7 x = 0) => And.intro hm (And.intro v19 (And.intro v9 (And.intro (fun (a3 : σ 8 k 5 - mi σ 19 x - mi σ 9 x < mo_ct σ) => ⟨Or.inl rfl, ?_⟩) (fun (a3 : ¬ σ 8 k 5 - mi σ 19 x - mi σ 9 x < mo_ct σ) => ⟨Or.inr rfl, ?_⟩))))))))
      · show some _ = (gX8_canBe ln k i σ).2.1 ∧ σ = (gX8_canBe ln k i σ).2.2
        rw [he]; unfold mo_ca; rw [if_pos h1, if_pos a1]; exact ⟨rfl, rfl⟩
      · show some _ = (gX8_canBe ln k i σ).2.1 ∧ σ = (gX8_canBe ln k i σ).2.2
        rw [he]; unfold mo_ca; rw [if_pos h1, if_neg a1, if_neg a2]; exact ⟨rfl, rfl⟩
      · show some _ = (gX8_canBe ln k i σ).2.1 ∧ σ = (gX8_canBe ln k i σ).2.2
        rw [he]; unfold mo_ca; rw [if_pos h1, if_neg a1, if_pos a2, if_pos a3]; exact ⟨rfl, rfl⟩
      · show some _ = (gX8_canBe ln k i σ).2.1 ∧ σ = (gX8_canBe ln k i σ).2.2
        rw [he]; unfold mo_ca; rw [if_pos h1, if_neg a1, if_pos a2, if_neg a3]; exact ⟨rfl, rfl⟩
    · refine And.intro v6 (And.intro (fun (a1 : mi σ 6 x = 0) => ⟨Or.inl rfl, ?_⟩) (fun (a1 : ¬ mi σ 6 x = 0) => And.intro w1 (And.intro v8 (And.intro (fun (a3 : σ 8 k 5 - mi σ 8 x < mi σ 38 1) => ⟨Or.inl rfl, ?_⟩) (fun (a3 : ¬ σ 8 k 5 - mi σ 8 x < mi σ 38 1) => ⟨Or.inr rfl, ?_⟩)))))
      · show some _ = (gX8_canBe ln k i σ).2.1 ∧ σ = (gX8_canBe ln k i σ).2.2
        rw [he]; unfold mo_ca; rw [if_neg n1, if_pos h2, if_pos a1]; exact ⟨rfl, rfl⟩
      · show some _ = (gX8_canBe ln k i σ).2.1 ∧ σ = (gX8_canBe ln k i σ).2.2
        rw [he]; unfold mo_ca; rw [if_neg n1, if_pos h2, if_neg a1, if_pos a3]; exact ⟨rfl, rfl⟩
      · show some _ = (gX8_canBe ln k i σ).2.1 ∧ σ = (gX8_canBe ln k i σ).2.2
        rw [he]; unfold mo_ca; rw [if_neg n1, if_pos h2, if_neg a1, if_neg a3]; exact ⟨rfl, rfl⟩
    · refine And.intro v13 (And.intro (fun (a1 : ¬ mb σ 13 x = 0) => ⟨Or.inl rfl, ?_⟩) (fun (a1 : mb σ 13 x = 0) => ⟨Or.inr rfl, ?_⟩))
      · show some _ = (gX8_canBe ln k i σ).2.1 ∧ σ = (gX8_canBe ln k i σ).2.2
        rw [he]; unfold mo_ca; rw [if_neg n1, if_neg n2, if_pos h3, if_neg a1]; exact ⟨rfl, rfl⟩
      · show some _ = (gX8_canBe ln k i σ).2.1 ∧ σ = (gX8_canBe ln k i σ).2.2
        rw [he]; unfold mo_ca; rw [if_neg n1, if_neg n2, if_pos h3, if_pos a1]; exact ⟨rfl, rfl⟩
    · refine And.intro v6 (And.intro (fun (a1 : mi σ 6 x = 0) => ⟨Or.inl rfl, ?_⟩) (fun (a1 : ¬ mi σ 6 x = 0) => And.intro v7 (And.intro (fun (a2 : ¬ mb σ 7 x = 0) => ⟨Or.inl rfl, ?_⟩) (fun (a2 : mb σ 7 x = 0) => ⟨Or.inr rfl, ?_⟩))))
      · show some _ = (gX8_canBe ln k i σ).2.1 ∧ σ = (gX8_canBe ln k i σ).2.2
        rw [he]; unfold mo_ca mo_cb; rw [if_neg n1, if_neg n2, if_neg n3, if_pos h4, if_pos a1]; exact ⟨rfl, rfl⟩
      · show some _ = (gX8_canBe ln k i σ).2.1 ∧ σ = (gX8_canBe ln k i σ).2.2
        rw [he]; unfold mo_ca mo_cb; rw [if_neg n1, if_neg n2, if_neg n3, if_pos h4, if_neg a1, if_neg a2]; exact ⟨rfl, rfl⟩
      · show some _ = (gX8_canBe ln k i σ).2.1 ∧ σ = (gX8_canBe ln k i σ).2.2
        rw [he]; unfold mo_ca mo_cb; rw [if_neg n1, if_neg n2, if_neg n3, if_pos h4, if_neg a1, if_pos a2]; exact ⟨rfl, rfl⟩
    · refine And.intro v13 (And.intro (fun (a1 : ¬ mb σ 13 x = 0) => ⟨Or.inl rfl, ?_⟩) (fun (a1 : mb σ 13 x = 0) => ⟨Or.inr rfl, ?_⟩))
      · show some _ = (gX8_canBe ln k i σ).2.1 ∧ σ = (gX8_canBe ln k i σ).2.2
        rw [he]; unfold mo_ca; rw [if_neg n1, if_neg n2, if_neg n3, if_neg n4, if_neg a1]; exact ⟨rfl, rfl⟩
      · show some _ = (gX8_canBe ln k i σ).2.1 ∧ σ = (gX8_canBe ln k i σ).2.2
        rw [he]; unfold mo_ca; rw [if_neg n1, if_neg n2, if_neg n3, if_neg n4, if_pos a1]; exact ⟨rfl, rfl⟩
  obtain ⟨M, key⟩ := key
  refine ⟨M + 20, sw_ws_wp [10] M 20 _ _ _ _ ?_⟩
  rw [hxe] at key
  exact And.intro hm key
set_option maxRecDepth 100000 in
theorem mX8_canBe {l : Launch} {ad : sw_A} {V : Nat → Nat → Prop} {ln : sw_A} {ca : Nat → ClassId} {D : va_G} (hG : sw_wf ad V sw_rf ln) : sw_met l ad V sw_rf ln ca D yX8_canBe cX8_canBe 3 (some .boolean) { frames := 1, cells := 0, slots := 0, locals := 20 } 2 (fX8_canBe ln) := by
  refine sw_meth hG (by decide) (by refine ⟨?_, ?_, ?_, ?_⟩ <;> intro h <;> first | rfl | exact ⟨_, rfl⟩ | exact absurd h (by decide)) (by decide) kX8_canBe flX8_in cnX8_in ?_ (sw_foi_h (W := fun Q L σ => ∃ fuel, wX8_canBe ln Q fuel 0 L [] σ) (fun a0 a1 σ h => hX8_canBe ln a0 a1 σ h))
  intro p e s m args below meth c S hT hnw
  refine List.forall_mem_cons.mpr ⟨sw_cokV S hT hnw (mX8_streamIn hG) 190 8 (by decide) ⟨by decide +kernel, by decide +kernel, by decide +kernel, by decide +kernel, by decide +kernel⟩ ⟨rfl, by decide, by decide, by decide +kernel⟩ ⟨rfl, rfl⟩ ⟨by decide, by decide⟩, ?_⟩
  refine List.forall_mem_cons.mpr ⟨sw_cokV S hT hnw (mX8_kind hG) 183 8 (by decide) ⟨by decide +kernel, by decide +kernel, by decide +kernel, by decide +kernel, by decide +kernel⟩ ⟨rfl, by decide, by decide, by decide +kernel⟩ ⟨rfl, rfl⟩ ⟨by decide, by decide⟩, ?_⟩
  refine List.forall_mem_cons.mpr ⟨sw_cokV S hT hnw (mX8_countIn hG) 187 8 (by decide) ⟨by decide +kernel, by decide +kernel, by decide +kernel, by decide +kernel, by decide +kernel⟩ ⟨rfl, by decide, by decide, by decide +kernel⟩ ⟨rfl, rfl⟩ ⟨by decide, by decide⟩, ?_⟩
  exact fun q h => absurd h List.not_mem_nil
def mo_ti (x : Int32) (n : Nat) (a : sw_S) : sw_S := mis a 20 (400 * x + mi a 19 x) (mi a 38 (2 + nI n))
def mo_tm (n : Nat) (a : sw_S) : Int32 := if mi a 38 1 >>> (nI n &&& 31) &&& 1 = 1 then 1 else 0
def mo_tj (x : Int32) (n : Nat) (a : sw_S) : sw_S := mbs a 21 (400 * x + mi a 19 x) (mo_tm n a)
def mo_tk (x : Int32) (a : sw_S) : sw_S := mis a 19 x (mi a 19 x + 1)
def mo_tl (x : Int32) : Nat → sw_S → sw_S
  | 0, σ => σ
  | n + 1, σ => mo_tk x (mo_tj x n (mo_ti x n (mo_tl x n σ)))
theorem mo_tl_k (x : Int32) {c k' : Nat} (h1 : ¬ (c = 15 ∧ k' = 19)) (h2 : ¬ (c = 15 ∧ k' = 20)) (h3 : ¬ (c = 16 ∧ k' = 21)) (j' : Nat) : ∀ (n : Nat) (σ : sw_S), mo_tl x n σ c k' j' = σ c k' j'
  | 0, _ => rfl
  | n + 1, σ => (if_neg (fun z => h1 ⟨z.1, z.2.1⟩)).trans ((if_neg (fun z => h3 ⟨z.1, z.2.1⟩)).trans ((if_neg (fun z => h2 ⟨z.1, z.2.1⟩)).trans (mo_tl_k x h1 h2 h3 j' n σ)))
theorem mo_tl_19 (x : Int32) (q : Nat) : ∀ (n : Nat) (σ : sw_S), mi σ 19 x = nI q → mi (mo_tl x n σ) 19 x = nI (q + n)
  | 0, _, h => h
  | n + 1, σ, h => by
    show mi (mo_tk x (mo_tj x n (mo_ti x n (mo_tl x n σ)))) 19 x = _
    rw [show mi (mo_tk x (mo_tj x n (mo_ti x n (mo_tl x n σ)))) 19 x = mi (mo_tj x n (mo_ti x n (mo_tl x n σ))) 19 x + 1 from sw_upe _ _ _ _ _, show mi (mo_tj x n (mo_ti x n (mo_tl x n σ))) 19 x = mi (mo_ti x n (mo_tl x n σ)) 19 x from sw_upk _ (by decide), show mi (mo_ti x n (mo_tl x n σ)) 19 x = mi (mo_tl x n σ) 19 x from sw_upi _ (by decide), mo_tl_19 x q n σ h, nI_1]
    rfl
def mo_te (k : Nat) (x : Int32) (a : sw_S) : sw_S := if mi (mbs a 13 x 1) 6 x = 0 then mo_be k x (mbs a 13 x 1) else mbs a 13 x 1
def mo_ta (k : Nat) (x : Int32) (σ : sw_S) : sw_S :=
  if mo_kd σ = 1 then mo_tl x (mo_ct σ).toNatClampNeg σ
  else if mo_kd σ = 2 then mis σ 8 x (mi σ 8 x + mi σ 38 1)
  else if mo_kd σ = 3 then mo_te k x σ
  else if mo_kd σ = 4 then mbs σ 7 x 1
  else mo_te k x σ
def gX8_take (ln : sw_A) (k : Nat) (i : Int32) (σ : sw_S) : sw_X := (mo ln ∧ vp_in (mo_ix i (mo_sn σ)) 16 ∧ (mo_kd σ = 1 → ∃ q n : Nat, mi σ 19 (mo_ix i (mo_sn σ)) = nI q ∧ mo_ct σ = nI n ∧ n ≤ 16 ∧ ∀ j, j < n → vp_in (mo_rx (mo_ix i (mo_sn σ)) (q + j)) 6400), none, mo_ta k (mo_ix i (mo_sn σ)) σ)
def fX8_take (ln : sw_A) : sw_F := sw_foi 8 (gX8_take ln)
def ctX8_take (ln : sw_A) : sw_C := [(190, 1, 9, fX8_streamIn ln), (183, 1, 9, fX8_kind ln), (187, 1, 9, fX8_countIn ln), (141, 2, 9, fX8_begin ln)]
abbrev wX8_take (ln : sw_A) (Q : Option sw_V → sw_S → Prop) : Nat → Nat → sw_L → List sw_V → sw_S → Prop := sw_wp sw_rf ln (ctX8_take ln) sX8_take 0 183 tX8_take Q
theorem hX8_take_l (ln : sw_A) (k q n : Nat) (i x : Int32) (σ : sw_S) (X : sw_X) (hm : mo ln) (hx : vp_in x 16) (hq : mi σ 19 x = nI q) (hc : mo_ct σ = nI n) (hn : n ≤ 16) (hb : ∀ j, j < n → vp_in (mo_rx x (q + j)) 6400) (hX : X.2 = (none, mo_tl x n σ)) : ∀ (d j : Nat), j + d = n → ∃ fuel, wX8_take ln (sw_end X) fuel 46 [some (.inr (some (8, k))), some (.inl i), some (.inl x), some (.inl (nI j))] [] (mo_tl x j σ) := by
  intro d
  induction d with
  | zero =>
    intro j hj
    have hj : j = n := by omega
    subst hj
    have hl : mo_ct (mo_tl x j σ) = nI j := by
      show sw_ushr (mo_tl x j σ 15 38 _) 24 = _
      rw [mo_tl_k x (by decide) (by decide) (by decide)]
      exact hc
    refine ⟨40, And.intro hm (And.intro (fun _ => ?_) (fun (h : ¬ mo_ct (mo_tl x j σ) ≤ nI j) => absurd (by rw [hl]; exact Int32.le_refl _) h))⟩
    show none = X.2.1 ∧ mo_tl x j σ = X.2.2
    rw [hX]
    exact ⟨rfl, rfl⟩
  | succ d ih =>
    intro j hj
    have hl : mo_ct (mo_tl x j σ) = nI n := by
      show sw_ushr (mo_tl x j σ 15 38 _) 24 = _
      rw [mo_tl_k x (by decide) (by decide) (by decide)]
      exact hc
    obtain ⟨a, ha⟩ : ∃ a, a = mo_tl x j σ := ⟨_, rfl⟩
    have e19 : mi a 19 x = nI (q + j) := by rw [ha]; exact mo_tl_19 x q j σ hq
    have b1 : vp_in (400 * x + mi a 19 x) 6400 := by rw [e19]; exact hb j (by omega)
    have b2 : vp_in (400 * x + mi (mo_ti x j a) 19 x) 6400 := by rw [show mi (mo_ti x j a) 19 x = mi a 19 x from sw_upi _ (by decide)]; exact b1
    have v19 := hm.i (j := 19) rfl hx
    have v2 : vp_in (2 + nI j) 19 := by
      rw [show (2 : Int32) + nI j = nI (2 + j) from nI_add 2 j]
      exact vp_in_nI (by omega) (by decide)
    have w1 := hm.i (j := 38) rfl vp_1_19
    obtain ⟨f, hf⟩ := ih (j + 1) (by omega)
    rw [← nI_1] at hf
    have hct : ¬ mo_ct a ≤ nI j := by rw [ha, hl]; exact nI_ge (by omega) (by omega)
    have k114 : ∃ M, ∀ v, v = mo_tm j (mo_ti x j a) → wX8_take ln (sw_end X) M 114 [some (.inr (some (8, k))), some (.inl i), some (.inl x), some (.inl (nI j))] [.inl v, .inl (400 * x + mi (mo_ti x j a) 19 x), .inr (some (16, 21))] (mo_ti x j a) := by
      refine ⟨f + 30, fun v hv => sw_ws_wp [46] f 30 _ _ _ _ ?_⟩
      subst hv
      rw [ha] at b2 ⊢
      refine And.intro (hm.z (j := 21) rfl b2) (And.intro ?_ (And.intro v19 (And.intro v19 hf)))
      show sw_bo (mo_tm j _)
      unfold mo_tm
      split
      · exact Or.inr rfl
      · exact Or.inl rfl
    obtain ⟨M, k114⟩ := k114
    rw [← ha]
    refine ⟨M + 60, sw_ws_wp [114] M 60 _ _ _ _ ?_⟩
    exact And.intro hm (And.intro (fun h => absurd h hct) (fun _ => And.intro v19 (And.intro (hm.i (j := 38) rfl v2) (And.intro (hm.i (j := 20) rfl b1) (And.intro v19 (And.intro w1 (And.intro (fun (a1 : ¬ mi (mo_ti x j a) 38 1 >>> (nI j &&& 31) &&& 1 = 1) => k114 _ (if_neg a1).symm) (fun (a1 : mi (mo_ti x j a) 38 1 >>> (nI j &&& 31) &&& 1 = 1) => k114 _ (if_pos a1).symm))))))))
theorem hX8_take (ln : sw_A) (k : Nat) (i : Int32) (σ : sw_S) (h : (gX8_take ln k i σ).1) : ∃ fuel, wX8_take ln (sw_end (gX8_take ln k i σ)) fuel 0 (sw_ent 4 [.inr (some (8, k)), .inl i]) [] σ := by
  obtain ⟨hm, hx, hd⟩ := h
  obtain ⟨x, hxe⟩ : ∃ x, x = mo_ix i (mo_sn σ) := ⟨_, rfl⟩
  rw [← hxe] at hx hd
  have he : (gX8_take ln k i σ).2 = (none, mo_ta k x σ) := by rw [hxe]; rfl
  have v6 := hm.i (j := 6) rfl hx
  have v7 := hm.z (j := 7) rfl hx
  have v8 := hm.i (j := 8) rfl hx
  have v13 := hm.z (j := 13) rfl hx
  have w1 := hm.i (j := 38) rfl vp_1_19
  have fin : ∀ b, b = mo_ta k x σ → none = (gX8_take ln k i σ).2.1 ∧ b = (gX8_take ln k i σ).2.2 := fun b hb => by rw [he, hb]; exact ⟨rfl, rfl⟩
  have key : ∃ M, wX8_take ln (sw_end (gX8_take ln k i σ)) M 10 [some (.inr (some (8, k))), some (.inl i), some (.inl x), none] [] σ := by
    by_cases h1 : mo_kd σ = 1
    · obtain ⟨q, n, hq, hc, hn, hb⟩ := hd h1
      obtain ⟨f, hf⟩ := hX8_take_l ln k q n i x σ (gX8_take ln k i σ) hm hx hq hc hn hb (by
        rw [he]
        unfold mo_ta
        rw [if_pos h1]
        show (none, mo_tl x (mo_ct σ).toNatClampNeg σ) = _
        rw [hc, nI_clamp (by omega)]) n 0 (by omega)
      refine ⟨f + 30, sw_ws_wp [46] f 30 _ _ _ _ ?_⟩
      exact And.intro hm (And.intro (fun _ => hf) (fun z => absurd h1 z))
    · refine ⟨60, And.intro hm (And.intro (fun z => absurd z h1) (fun _ => And.intro (fun (h2 : mo_kd σ = 2) => And.intro v8 (And.intro w1 (And.intro v8 (fin _ ?_)))) (fun (n2 : ¬ mo_kd σ = 2) => And.intro (fun (h3 : mo_kd σ = 3) => And.intro v13 (And.intro (Or.inr rfl) (And.intro v6 (And.intro (fun (a1 : ¬ mi (mbs σ 13 x 1) 6 x = 0) => fin _ ?_) (fun (a1 : mi (mbs σ 13 x 1) 6 x = 0) => And.intro ⟨hm, hx⟩ (fin _ ?_)))))) (fun (n3 : ¬ mo_kd σ = 3) => And.intro (fun (h4 : mo_kd σ = 4) => And.intro v7 (And.intro (Or.inr rfl) (fin _ ?_))) (fun (n4 : ¬ mo_kd σ = 4) => And.intro v13 (And.intro (Or.inr rfl) (And.intro v6 (And.intro (fun (a1 : ¬ mi (mbs σ 13 x 1) 6 x = 0) => fin _ ?_) (fun (a1 : mi (mbs σ 13 x 1) 6 x = 0) => And.intro ⟨hm, hx⟩ (fin _ ?_))))))))))⟩
      · unfold mo_ta; rw [if_neg h1, if_pos h2]; rfl
      · unfold mo_ta mo_te; rw [if_neg h1, if_neg n2, if_pos h3, if_neg a1]; rfl
      · unfold mo_ta mo_te; rw [if_neg h1, if_neg n2, if_pos h3, if_pos a1]; rfl
      · unfold mo_ta; rw [if_neg h1, if_neg n2, if_neg n3, if_pos h4]; rfl
      · unfold mo_ta mo_te; rw [if_neg h1, if_neg n2, if_neg n3, if_neg n4, if_neg a1]; rfl
      · unfold mo_ta mo_te; rw [if_neg h1, if_neg n2, if_neg n3, if_neg n4, if_pos a1]; rfl
  obtain ⟨M, key⟩ := key
  refine ⟨M + 20, sw_ws_wp [10] M 20 _ _ _ _ ?_⟩
  rw [hxe] at key
  exact And.intro hm key
set_option maxRecDepth 100000 in
theorem mX8_take {l : Launch} {ad : sw_A} {V : Nat → Nat → Prop} {ln : sw_A} {ca : Nat → ClassId} {D : va_G} (hG : sw_wf ad V sw_rf ln) : sw_met l ad V sw_rf ln ca D yX8_take cX8_take 4 none { frames := 1, cells := 0, slots := 0, locals := 21 } 2 (fX8_take ln) := by
  refine sw_meth hG (by decide) (by refine ⟨?_, ?_, ?_, ?_⟩ <;> intro h <;> first | rfl | exact ⟨_, rfl⟩ | exact absurd h (by decide)) (by decide) kX8_take flX8_in cnX8_in ?_ (sw_foi_h (W := fun Q L σ => ∃ fuel, wX8_take ln Q fuel 0 L [] σ) (fun a0 a1 σ h => hX8_take ln a0 a1 σ h))
  intro p e s m args below meth c S hT hnw
  refine List.forall_mem_cons.mpr ⟨sw_cokV S hT hnw (mX8_streamIn hG) 190 8 (by decide) ⟨by decide +kernel, by decide +kernel, by decide +kernel, by decide +kernel, by decide +kernel⟩ ⟨rfl, by decide, by decide, by decide +kernel⟩ ⟨rfl, rfl⟩ ⟨by decide, by decide⟩, ?_⟩
  refine List.forall_mem_cons.mpr ⟨sw_cokV S hT hnw (mX8_kind hG) 183 8 (by decide) ⟨by decide +kernel, by decide +kernel, by decide +kernel, by decide +kernel, by decide +kernel⟩ ⟨rfl, by decide, by decide, by decide +kernel⟩ ⟨rfl, rfl⟩ ⟨by decide, by decide⟩, ?_⟩
  refine List.forall_mem_cons.mpr ⟨sw_cokV S hT hnw (mX8_countIn hG) 187 8 (by decide) ⟨by decide +kernel, by decide +kernel, by decide +kernel, by decide +kernel, by decide +kernel⟩ ⟨rfl, by decide, by decide, by decide +kernel⟩ ⟨rfl, rfl⟩ ⟨by decide, by decide⟩, ?_⟩
  refine List.forall_mem_cons.mpr ⟨sw_cokV S hT hnw (mX8_begin hG) 141 8 (by decide) ⟨by decide +kernel, by decide +kernel, by decide +kernel, by decide +kernel, by decide +kernel⟩ ⟨rfl, by decide, by decide, by decide +kernel⟩ ⟨rfl, rfl⟩ ⟨by decide, by decide⟩, ?_⟩
  exact fun q h => absurd h List.not_mem_nil
