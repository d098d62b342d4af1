/-! The reference: telling, dropping -/
def mo_sv (x w : Int32) (σ : sw_S) : Int32 := if w = 0 then mi σ 6 x else if w = 1 then bi (mb σ 7 x) else if w = 2 then mi σ 8 x else if w = 3 then mi σ 9 x else if w = 4 then mi σ 16 x else if w = 5 then mi σ 19 x else if w = 6 then bi (mb σ 11 x) else if w = 7 then bi (mb σ 12 x) else if w = 8 then mi σ 14 x else if w = 9 then mi σ 15 x else -1
def mo_str (k : Nat) (i t w : Int32) (σ : sw_S) : Int32 := if mo_st k i t σ = 0 then -1 else mo_sv (mo_ix i t) w σ
def gX8_stream (ln : sw_A) (k : Nat) (i t w : Int32) (σ : sw_S) : sw_X := (mo ln ∧ mo_pt k i t σ, some (.inl (mo_str k i t w σ)), σ)
def fX8_stream (ln : sw_A) : sw_F := sw_foiii 8 (gX8_stream ln)
def ctX8_stream (ln : sw_A) : sw_C := [(137, 3, 9, fX8_isStream ln)]
abbrev wX8_stream (ln : sw_A) (Q : Option sw_V → sw_S → Prop) : Nat → Nat → sw_L → List sw_V → sw_S → Prop := sw_wp sw_rf ln (ctX8_stream ln) sX8_stream 1 181 tX8_stream Q
theorem hX8_stream (ln : sw_A) (k : Nat) (i t w : Int32) (σ : sw_S) (h : (gX8_stream ln k i t w σ).1) : ∃ fuel, wX8_stream ln (sw_end (gX8_stream ln k i t w σ)) fuel 0 (sw_ent 5 [.inr (some (8, k)), .inl i, .inl t, .inl w]) [] σ := by
  obtain ⟨hm, hp⟩ := h
  refine ⟨40, And.intro trivial (And.intro (fun (h1 : ¬ mo_st k i t σ = 0) => ?_) (fun (h1 : mo_st k i t σ = 0) => ⟨sw_ri (if_pos h1).symm, rfl⟩))⟩
  have hx := (hp h1).1
  have hs : mo_str k i t w σ = mo_sv (mo_ix i t) w σ := if_neg h1
  refine And.intro (fun (h00 : w = 0) => And.intro (hm.i (j := 6) rfl hx) ⟨sw_ri ?_, rfl⟩) (fun (n00 : ¬ w = 0) => And.intro (fun (h10 : w = 1) => And.intro (hm.z (j := 7) rfl hx) (And.intro (fun (b1 : mb σ 7 (mo_ix i t) = 0) => ⟨sw_ri ?_, rfl⟩) (fun (b1 : ¬ mb σ 7 (mo_ix i t) = 0) => ⟨sw_ri ?_, rfl⟩))) (fun (n10 : ¬ w = 1) => And.intro (fun (h20 : w = 2) => And.intro (hm.i (j := 8) rfl hx) ⟨sw_ri ?_, rfl⟩) (fun (n20 : ¬ w = 2) => And.intro (fun (h30 : w = 3) => And.intro (hm.i (j := 9) rfl hx) ⟨sw_ri ?_, rfl⟩) (fun (n30 : ¬ w = 3) => And.intro (fun (h40 : w = 4) => And.intro (hm.i (j := 16) rfl hx) ⟨sw_ri ?_, rfl⟩) (fun (n40 : ¬ w = 4) => And.intro (fun (h50 : w = 5) => And.intro (hm.i (j := 19) rfl hx) ⟨sw_ri ?_, rfl⟩) (fun (n50 : ¬ w = 5) => And.intro (fun (h60 : w = 6) => And.intro (hm.z (j := 11) rfl hx) (And.intro (fun (b6 : mb σ 11 (mo_ix i t) = 0) => ⟨sw_ri ?_, rfl⟩) (fun (b6 : ¬ mb σ 11 (mo_ix i t) = 0) => ⟨sw_ri ?_, rfl⟩))) (fun (n60 : ¬ w = 6) => And.intro (fun (h70 : w = 7) => And.intro (hm.z (j := 12) rfl hx) (And.intro (fun (b7 : mb σ 12 (mo_ix i t) = 0) => ⟨sw_ri ?_, rfl⟩) (fun (b7 : ¬ mb σ 12 (mo_ix i t) = 0) => ⟨sw_ri ?_, rfl⟩))) (fun (n70 : ¬ w = 7) => And.intro (fun (h80 : w = 8) => And.intro (hm.i (j := 14) rfl hx) ⟨sw_ri ?_, rfl⟩) (fun (n80 : ¬ w = 8) => And.intro (fun (h90 : w = 9) => And.intro (hm.i (j := 15) rfl hx) ⟨sw_ri ?_, rfl⟩) (fun (n90 : ¬ w = 9) => ⟨sw_ri ?_, rfl⟩))))))))))
  · rw [hs]; unfold mo_sv; rw [if_pos h00]; try rfl
  · rw [hs]; unfold mo_sv bi; rw [if_neg n00, if_pos h10, if_pos b1]
  · rw [hs]; unfold mo_sv bi; rw [if_neg n00, if_pos h10, if_neg b1]
  · rw [hs]; unfold mo_sv; rw [if_neg n00, if_neg n10, if_pos h20]; try rfl
  · rw [hs]; unfold mo_sv; rw [if_neg n00, if_neg n10, if_neg n20, if_pos h30]; try rfl
  · rw [hs]; unfold mo_sv; rw [if_neg n00, if_neg n10, if_neg n20, if_neg n30, if_pos h40]; try rfl
  · rw [hs]; unfold mo_sv; rw [if_neg n00, if_neg n10, if_neg n20, if_neg n30, if_neg n40, if_pos h50]; try rfl
  · rw [hs]; unfold mo_sv bi; rw [if_neg n00, if_neg n10, if_neg n20, if_neg n30, if_neg n40, if_neg n50, if_pos h60, if_pos b6]
  · rw [hs]; unfold mo_sv bi; rw [if_neg n00, if_neg n10, if_neg n20, if_neg n30, if_neg n40, if_neg n50, if_pos h60, if_neg b6]
  · rw [hs]; unfold mo_sv bi; rw [if_neg n00, if_neg n10, if_neg n20, if_neg n30, if_neg n40, if_neg n50, if_neg n60, if_pos h70, if_pos b7]
  · rw [hs]; unfold mo_sv bi; rw [if_neg n00, if_neg n10, if_neg n20, if_neg n30, if_neg n40, if_neg n50, if_neg n60, if_pos h70, if_neg b7]
  · rw [hs]; unfold mo_sv; rw [if_neg n00, if_neg n10, if_neg n20, if_neg n30, if_neg n40, if_neg n50, if_neg n60, if_neg n70, if_pos h80]; try rfl
  · rw [hs]; unfold mo_sv; rw [if_neg n00, if_neg n10, if_neg n20, if_neg n30, if_neg n40, if_neg n50, if_neg n60, if_neg n70, if_neg n80, if_pos h90]; try rfl
  · rw [hs]; unfold mo_sv; rw [if_neg n00, if_neg n10, if_neg n20, if_neg n30, if_neg n40, if_neg n50, if_neg n60, if_neg n70, if_neg n80, if_neg n90]; try rfl
set_option maxRecDepth 100000 in
theorem mX8_stream {l : Launch} {ad : sw_A} {V : Nat → Nat → Prop} {ln : sw_A} {ca : Nat → ClassId} {D : va_G} (hG : sw_wf ad V sw_rf ln) : sw_met l ad V sw_rf ln ca D yX8_stream cX8_stream 5 (some .int) { frames := 2, cells := 0, slots := 0, locals := 42 } 4 (fX8_stream ln) := by
  refine sw_meth hG (by decide) (by refine ⟨?_, ?_, ?_, ?_⟩ <;> intro h <;> first | rfl | exact ⟨_, rfl⟩ | exact absurd h (by decide)) (by decide) kX8_stream flX8_in cnX8_in ?_ (sw_foiii_h (W := fun Q L σ => ∃ fuel, wX8_stream ln Q fuel 0 L [] σ) (fun a0 a1 a2 a3 σ h => hX8_stream ln a0 a1 a2 a3 σ h))
  intro p e s m args below meth c S hT hnw
  refine List.forall_mem_cons.mpr ⟨sw_cokV S hT hnw (mX8_isStream hG) 137 8 (by decide) ⟨by decide +kernel, by decide +kernel, by decide +kernel, by decide +kernel, by decide +kernel⟩ ⟨rfl, by decide, by decide, by decide +kernel⟩ ⟨rfl, rfl⟩ ⟨by decide, by decide⟩, ?_⟩
  exact fun q h => absurd h List.not_mem_nil
def mo_ol (k : Nat) (i : Int32) (σ : sw_S) : Int32 := sw_rem (mi σ 28 i + σ 8 k 2 + 1 - mi σ 22 i) (σ 8 k 2 + 1)
def mo_sw (k : Nat) (i w : Int32) (σ : sw_S) : Int32 := if w = 0 then mo_fr k i σ else if w = 1 then mi σ 22 i else if w = 2 then mo_ol k i σ else if w = 3 then mi σ 29 i else if w = 4 then mi σ 25 i else if w = 5 then mi σ 30 i else if w = 6 then mi σ 31 i else if w = 7 then bi (mb σ 32 i) else if w = 8 then mi σ 33 i else if w = 9 then mi σ 34 i else if w = 10 then mi σ 35 i else if w = 11 then mi σ 36 i else -1
def mo_sid (k : Nat) (i w : Int32) (σ : sw_S) : Int32 := if mo_is i = 0 then -1 else mo_sw k i w σ
def gX8_side (ln : sw_A) (k : Nat) (i w : Int32) (σ : sw_S) : sw_X := (mo ln ∧ (¬ mo_is i = 0 → mo_fp k i σ) ∧ ¬ σ 8 k 2 + 1 = 0, some (.inl (mo_sid k i w σ)), σ)
def fX8_side (ln : sw_A) : sw_F := sw_foii 8 (gX8_side ln)
def ctX8_side (ln : sw_A) : sw_C := [(133, 1, 0, fX8_isSide ln), (145, 2, 9, fX8_free ln)]
abbrev wX8_side (ln : sw_A) (Q : Option sw_V → sw_S → Prop) : Nat → Nat → sw_L → List sw_V → sw_S → Prop := sw_wp sw_rf ln (ctX8_side ln) sX8_side 1 185 tX8_side Q
theorem hX8_side (ln : sw_A) (k : Nat) (i w : Int32) (σ : sw_S) (h : (gX8_side ln k i w σ).1) : ∃ fuel, wX8_side ln (sw_end (gX8_side ln k i w σ)) fuel 0 (sw_ent 3 [.inr (some (8, k)), .inl i, .inl w]) [] σ := by
  obtain ⟨hm, hp, hw⟩ := h
  refine ⟨40, And.intro trivial (And.intro (fun (h1 : ¬ mo_is i = 0) => ?_) (fun (h1 : mo_is i = 0) => ⟨sw_ri (if_pos h1).symm, rfl⟩))⟩
  have hf := hp h1
  have hi := hf.1
  have hs : mo_sid k i w σ = mo_sw k i w σ := if_neg h1
  refine And.intro (fun (h00 : w = 0) => And.intro ⟨hm, hf⟩ ⟨sw_ri ?_, rfl⟩) (fun (n00 : ¬ w = 0) => And.intro (fun (h10 : w = 1) => And.intro (hm.i (j := 22) rfl hi) ⟨sw_ri ?_, rfl⟩) (fun (n10 : ¬ w = 1) => And.intro (fun (h20 : w = 2) => And.intro (hm.i (j := 28) rfl hi) (And.intro (hm.i (j := 22) rfl hi) (And.intro hw ⟨sw_ri ?_, rfl⟩))) (fun (n20 : ¬ w = 2) => And.intro (fun (h30 : w = 3) => And.intro (hm.i (j := 29) rfl hi) ⟨sw_ri ?_, rfl⟩) (fun (n30 : ¬ w = 3) => And.intro (fun (h40 : w = 4) => And.intro (hm.i (j := 25) rfl hi) ⟨sw_ri ?_, rfl⟩) (fun (n40 : ¬ w = 4) => And.intro (fun (h50 : w = 5) => And.intro (hm.i (j := 30) rfl hi) ⟨sw_ri ?_, rfl⟩) (fun (n50 : ¬ w = 5) => And.intro (fun (h60 : w = 6) => And.intro (hm.i (j := 31) rfl hi) ⟨sw_ri ?_, rfl⟩) (fun (n60 : ¬ w = 6) => And.intro (fun (h70 : w = 7) => And.intro (hm.z (j := 32) rfl hi) (And.intro (fun (b7 : mb σ 32 i = 0) => ⟨sw_ri ?_, rfl⟩) (fun (b7 : ¬ mb σ 32 i = 0) => ⟨sw_ri ?_, rfl⟩))) (fun (n70 : ¬ w = 7) => And.intro (fun (h80 : w = 8) => And.intro (hm.i (j := 33) rfl hi) ⟨sw_ri ?_, rfl⟩) (fun (n80 : ¬ w = 8) => And.intro (fun (h90 : w = 9) => And.intro (hm.i (j := 34) rfl hi) ⟨sw_ri ?_, rfl⟩) (fun (n90 : ¬ w = 9) => And.intro (fun (h100 : w = 10) => And.intro (hm.i (j := 35) rfl hi) ⟨sw_ri ?_, rfl⟩) (fun (n100 : ¬ w = 10) => And.intro (fun (h110 : w = 11) => And.intro (hm.i (j := 36) rfl hi) ⟨sw_ri ?_, rfl⟩) (fun (n110 : ¬ w = 11) => ⟨sw_ri ?_, rfl⟩))))))))))))
  · rw [hs]; unfold mo_sw; rw [if_pos h00]; try rfl
  · rw [hs]; unfold mo_sw; rw [if_neg n00, if_pos h10]; try rfl
  · rw [hs]; unfold mo_sw; rw [if_neg n00, if_neg n10, if_pos h20]; try rfl
  · rw [hs]; unfold mo_sw; rw [if_neg n00, if_neg n10, if_neg n20, if_pos h30]; try rfl
  · rw [hs]; unfold mo_sw; rw [if_neg n00, if_neg n10, if_neg n20, if_neg n30, if_pos h40]; try rfl
  · rw [hs]; unfold mo_sw; rw [if_neg n00, if_neg n10, if_neg n20, if_neg n30, if_neg n40, if_pos h50]; try rfl
  · rw [hs]; unfold mo_sw; rw [if_neg n00, if_neg n10, if_neg n20, if_neg n30, if_neg n40, if_neg n50, if_pos h60]; try rfl
  · rw [hs]; unfold mo_sw bi; rw [if_neg n00, if_neg n10, if_neg n20, if_neg n30, if_neg n40, if_neg n50, if_neg n60, if_pos h70, if_pos b7]
  · rw [hs]; unfold mo_sw bi; rw [if_neg n00, if_neg n10, if_neg n20, if_neg n30, if_neg n40, if_neg n50, if_neg n60, if_pos h70, if_neg b7]
  · rw [hs]; unfold mo_sw; rw [if_neg n00, if_neg n10, if_neg n20, if_neg n30, if_neg n40, if_neg n50, if_neg n60, if_neg n70, if_pos h80]; try rfl
  · rw [hs]; unfold mo_sw; rw [if_neg n00, if_neg n10, if_neg n20, if_neg n30, if_neg n40, if_neg n50, if_neg n60, if_neg n70, if_neg n80, if_pos h90]; try rfl
  · rw [hs]; unfold mo_sw; rw [if_neg n00, if_neg n10, if_neg n20, if_neg n30, if_neg n40, if_neg n50, if_neg n60, if_neg n70, if_neg n80, if_neg n90, if_pos h100]; try rfl
  · rw [hs]; unfold mo_sw; rw [if_neg n00, if_neg n10, if_neg n20, if_neg n30, if_neg n40, if_neg n50, if_neg n60, if_neg n70, if_neg n80, if_neg n90, if_neg n100, if_pos h110]; try rfl
  · rw [hs]; unfold mo_sw; rw [if_neg n00, if_neg n10, if_neg n20, if_neg n30, if_neg n40, if_neg n50, if_neg n60, if_neg n70, if_neg n80, if_neg n90, if_neg n100, if_neg n110]; try rfl
set_option maxRecDepth 100000 in
theorem mX8_side {l : Launch} {ad : sw_A} {V : Nat → Nat → Prop} {ln : sw_A} {ca : Nat → ClassId} {D : va_G} (hG : sw_wf ad V sw_rf ln) : sw_met l ad V sw_rf ln ca D yX8_side cX8_side 3 (some .int) { frames := 1, cells := 0, slots := 0, locals := 24 } 3 (fX8_side ln) := by
  refine sw_meth hG (by decide) (by refine ⟨?_, ?_, ?_, ?_⟩ <;> intro h <;> first | rfl | exact ⟨_, rfl⟩ | exact absurd h (by decide)) (by decide) kX8_side flX8_in cnX8_in ?_ (sw_foii_h (W := fun Q L σ => ∃ fuel, wX8_side ln Q fuel 0 L [] σ) (fun a0 a1 a2 σ h => hX8_side ln a0 a1 a2 σ h))
  intro p e s m args below meth c S hT hnw
  refine List.forall_mem_cons.mpr ⟨sw_cokS S hT hnw (mX8_isSide hG) 133 ⟨by decide +kernel, by decide +kernel, by decide +kernel, by decide +kernel⟩ ⟨rfl, by decide, by decide, by decide +kernel⟩ ⟨rfl, rfl⟩ ⟨by decide, by decide⟩, ?_⟩
  refine List.forall_mem_cons.mpr ⟨sw_cokV S hT hnw (mX8_free hG) 145 8 (by decide) ⟨by decide +kernel, by decide +kernel, by decide +kernel, by decide +kernel, by decide +kernel⟩ ⟨rfl, by decide, by decide, by decide +kernel⟩ ⟨rfl, rfl⟩ ⟨by decide, by decide⟩, ?_⟩
  exact fun q h => absurd h List.not_mem_nil
/-- a frame's words go from place q + c to place q of the row b -/
def mo_di (b : Nat) (q c : Int32) : Nat → sw_S → sw_S
  | 0, σ => σ
  | n + 1, σ => mis (mo_di b q c n σ) b (19 * q + nI n) (mi (mo_di b q c n σ) b (19 * (q + c) + nI n))
theorem mo_di_k (b : Nat) (q c' : Int32) {c k' : Nat} (h : ¬ (c = 15 ∧ k' = b)) (j' : Nat) : ∀ (n : Nat) (σ : sw_S), mo_di b q c' n σ c k' j' = σ c k' j'
  | 0, _ => rfl
  | n + 1, σ => (if_neg (fun z => h ⟨z.1, z.2.1⟩)).trans (mo_di_k b q c' h j' n σ)
/-- r frames from place B on, each from c behind -/
def mo_dm (a b B : Nat) (c : Int32) : Nat → sw_S → sw_S
  | 0, σ => σ
  | r + 1, σ => mo_di b (nI (B + r)) c 19 (mis (mo_dm a b B c r σ) a (nI (B + r)) (mi (mo_dm a b B c r σ) a (nI (B + r) + c)))
theorem mo_dm_k (a b B : Nat) (c' : Int32) {c k' : Nat} (ha : ¬ (c = 15 ∧ k' = a)) (hb : ¬ (c = 15 ∧ k' = b)) (j' : Nat) : ∀ (r : Nat) (σ : sw_S), mo_dm a b B c' r σ c k' j' = σ c k' j'
  | 0, _ => rfl
  | r + 1, σ => (mo_di_k b _ c' hb j' 19 _).trans ((if_neg (fun z => ha ⟨z.1, z.2.1⟩)).trans (mo_dm_k a b B c' ha hb j' r σ))
theorem mo_19 (q n : Nat) : (19 : Int32) * nI q + nI n = nI (19 * q + n) := by
  rw [show (19 : Int32) * nI q = nI (19 * q) from pk_mul 19 q, nI_add]
theorem mo_19c (q c n : Nat) : (19 : Int32) * (nI q + nI c) + nI n = nI (19 * (q + c) + n) := by rw [nI_add, mo_19]
def mo_o1 (i : Int32) (σ : sw_S) : sw_S := mis σ 25 i (mi σ 25 i - 1)
def mo_dr (i : Int32) (σ : sw_S) : sw_S := mo_dm 26 27 (20 * i.toNatClampNeg) 1 (mi σ 25 i - 1).toNatClampNeg (mo_o1 i σ)
def mo_op2 (i : Int32) (σ : sw_S) : Prop := ∃ s r : Nat, s < 2 ∧ r ≤ 19 ∧ i = nI s ∧ mi σ 25 i - 1 = nI r
def gX8_dropOldest (ln : sw_A) (k : Nat) (i : Int32) (σ : sw_S) : sw_X := (mo ln ∧ mo_op2 i σ, none, mo_dr i σ)
def fX8_dropOldest (ln : sw_A) : sw_F := sw_foi 8 (gX8_dropOldest ln)
def ctX8_dropOldest (ln : sw_A) : sw_C := []
abbrev wX8_dropOldest (ln : sw_A) (Q : Option sw_V → sw_S → Prop) : Nat → Nat → sw_L → List sw_V → sw_S → Prop := sw_wp sw_rf ln (ctX8_dropOldest ln) sX8_dropOldest 0 88 tX8_dropOldest Q
theorem hX8_dropOldest_i (ln : sw_A) (k B r : Nat) (i : Int32) (σ : sw_S) (X : sw_X) (hm : mo ln) (hq : B + r + 1 < 40) (M : Nat) (hM : wX8_dropOldest ln (sw_end X) M 82 [some (.inr (some (8, k))), some (.inl i), some (.inl (nI (B + r))), some (.inl (nI 19))] [] (mo_di 27 (nI (B + r)) 1 19 σ)) : ∀ (d j : Nat), j + d = 19 → ∃ fuel, wX8_dropOldest ln (sw_end X) fuel 46 [some (.inr (some (8, k))), some (.inl i), some (.inl (nI (B + r))), some (.inl (nI j))] [] (mo_di 27 (nI (B + r)) 1 j σ) := by
  intro d
  induction d with
  | zero =>
    intro j hj
    have hj : j = 19 := by omega
    subst hj
    refine ⟨M + 20, sw_ws_wp [82] M 20 _ _ _ _ ?_⟩
    exact And.intro (fun _ => hM) (fun (h : ¬ nI 19 ≤ nI 19) => absurd (Int32.le_refl _) h)
  | succ d ih =>
    intro j hj
    have v1 : vp_in (19 * (nI (B + r) + 1) + nI j) 760 := by
      rw [show (19 : Int32) * (nI (B + r) + 1) + nI j = nI (19 * (B + r + 1) + j) from mo_19c (B + r) 1 j]
      exact vp_in_nI (by omega) (by decide)
    have v2 : vp_in (19 * nI (B + r) + nI j) 760 := by
      rw [mo_19]
      exact vp_in_nI (by omega) (by decide)
    obtain ⟨f, hf⟩ := ih (j + 1) (by omega)
    rw [← nI_1] at hf
    refine ⟨f + 40, sw_ws_wp [46] f 40 _ _ _ _ ?_⟩
    exact And.intro (fun (h : nI 19 ≤ nI j) => absurd h (nI_ge (a := j) (b := 19) (by omega) (by decide))) (fun _ => And.intro (hm.i (j := 27) rfl v1) (And.intro (hm.i (j := 27) rfl v2) hf))
theorem hX8_dropOldest_o (ln : sw_A) (k s n : Nat) (σ : sw_S) (X : sw_X) (hm : mo ln) (hs : s < 2) (hn : n ≤ 19) (hz : mi σ 25 (nI s) = nI n) (hX : X.2 = (none, mo_dm 26 27 (20 * s) 1 n σ)) : ∀ (d r : Nat), r + d = n → ∃ fuel, ∀ v3, wX8_dropOldest ln (sw_end X) fuel 15 [some (.inr (some (8, k))), some (.inl (nI s)), some (.inl (nI (20 * s + r))), v3] [] (mo_dm 26 27 (20 * s) 1 r σ) := by
  have hi : vp_in (nI s) 2 := vp_in_nI hs (by decide)
  have v25 := hm.i (j := 25) rfl hi
  have hbase : ∀ m : Nat, (20 : Int32) * nI s + nI m = nI (20 * s + m) := fun m => by rw [show (20 : Int32) * nI s = nI (20 * s) from pk_mul 20 s, nI_add]
  intro d
  induction d with
  | zero =>
    intro r hr
    have hr : r = n := by omega
    subst hr
    have hl : mi (mo_dm 26 27 (20 * s) 1 r σ) 25 (nI s) = nI r := (mo_dm_k 26 27 _ 1 (by decide) (by decide) _ r σ).trans hz
    refine ⟨30, fun v3 => And.intro v25 (And.intro (fun _ => ?_) (fun (h : ¬ 20 * nI s + mi (mo_dm 26 27 (20 * s) 1 r σ) 25 (nI s) ≤ nI (20 * s + r)) => absurd (by rw [hl, hbase]; exact Int32.le_refl _) h))⟩
    show none = X.2.1 ∧ mo_dm 26 27 (20 * s) 1 r σ = X.2.2
    rw [hX]
    exact ⟨rfl, rfl⟩
  | succ d ih =>
    intro r hr
    have hl : mi (mo_dm 26 27 (20 * s) 1 r σ) 25 (nI s) = nI n := (mo_dm_k 26 27 _ 1 (by decide) (by decide) _ r σ).trans hz
    have hlt : ¬ 20 * nI s + mi (mo_dm 26 27 (20 * s) 1 r σ) 25 (nI s) ≤ nI (20 * s + r) := by
      rw [hl, hbase]
      exact nI_ge (by omega) (by omega)
    have v1 : vp_in (nI (20 * s + r) + 1) 40 := by rw [nI_1]; exact vp_in_nI (by omega) (by decide)
    have v2 : vp_in (nI (20 * s + r)) 40 := vp_in_nI (by omega) (by decide)
    obtain ⟨f, hf⟩ := ih (r + 1) (by omega)
    have hf := hf (some (.inl (nI 19)))
    rw [show 20 * s + (r + 1) = 20 * s + r + 1 by omega, ← nI_1] at hf
    have k82 : wX8_dropOldest ln (sw_end X) (f + 10) 82 [some (.inr (some (8, k))), some (.inl (nI s)), some (.inl (nI (20 * s + r))), some (.inl (nI 19))] [] (mo_dm 26 27 (20 * s) 1 (r + 1) σ) := sw_ws_wp [15] f 10 _ _ _ _ hf
    obtain ⟨M, hM⟩ : ∃ M, M = f + 10 := ⟨_, rfl⟩
    rw [← hM] at k82
    obtain ⟨g, hg⟩ := hX8_dropOldest_i ln k (20 * s) r (nI s) (mis (mo_dm 26 27 (20 * s) 1 r σ) 26 (nI (20 * s + r)) (mi (mo_dm 26 27 (20 * s) 1 r σ) 26 (nI (20 * s + r) + 1))) X hm (by omega) M k82 19 0 (by omega)
    refine ⟨g + 40, fun v3 => sw_ws_wp [46] g 40 _ _ _ _ ?_⟩
    exact And.intro v25 (And.intro (fun h => absurd h hlt) (fun _ => And.intro (hm.i (j := 26) rfl v1) (And.intro (hm.i (j := 26) rfl v2) hg)))
theorem hX8_dropOldest (ln : sw_A) (k : Nat) (i : Int32) (σ : sw_S) (h : (gX8_dropOldest ln k i σ).1) : ∃ fuel, wX8_dropOldest ln (sw_end (gX8_dropOldest ln k i σ)) fuel 0 (sw_ent 4 [.inr (some (8, k)), .inl i]) [] σ := by
  obtain ⟨hm, s, r, hs, hr, rfl, hz⟩ := h
  have hi : vp_in (nI s) 2 := vp_in_nI hs (by decide)
  have v25 := hm.i (j := 25) rfl hi
  obtain ⟨f, hf⟩ := hX8_dropOldest_o ln k s r (mo_o1 (nI s) σ) (gX8_dropOldest ln k (nI s) σ) hm hs hr ((sw_upe _ _ _ _ _).trans hz) (by
    show (none, mo_dr (nI s) σ) = _
    unfold mo_dr
    rw [hz, nI_clamp (by omega), nI_clamp (by omega)]) r 0 (by omega)
  have hf := hf none
  rw [show nI (20 * s + 0) = (20 : Int32) * nI s from (pk_mul 20 s).symm] at hf
  refine ⟨f + 30, sw_ws_wp [15] f 30 _ _ _ _ ?_⟩
  exact And.intro v25 (And.intro v25 hf)
set_option maxRecDepth 100000 in
theorem mX8_dropOldest {l : Launch} {ad : sw_A} {V : Nat → Nat → Prop} {ln : sw_A} {ca : Nat → ClassId} {D : va_G} (hG : sw_wf ad V sw_rf ln) : sw_met l ad V sw_rf ln ca D yX8_dropOldest cX8_dropOldest 4 none { frames := 0, cells := 0, slots := 0, locals := 0 } 2 (fX8_dropOldest ln) := by
  refine sw_meth hG (by decide) (by refine ⟨?_, ?_, ?_, ?_⟩ <;> intro h <;> first | rfl | exact ⟨_, rfl⟩ | exact absurd h (by decide)) (by decide) kX8_dropOldest flX8_in cnX8_in ?_ (sw_foi_h (W := fun Q L σ => ∃ fuel, wX8_dropOldest ln Q fuel 0 L [] σ) (fun a0 a1 σ h => hX8_dropOldest ln a0 a1 σ h))
  intro p e s m args below meth c S hT hnw
  exact fun q h => absurd h List.not_mem_nil
def mo_lo (i : Int32) (σ : sw_S) : wi_P := if mo_is i = 0 then (0, σ) else if mi σ 25 i = 0 then (0, σ) else (1, mo_dr i σ)
def gX8_lose (ln : sw_A) (k : Nat) (i : Int32) (σ : sw_S) : sw_X := (mo ln ∧ (¬ mo_is i = 0 → vp_in i 2 ∧ (¬ mi σ 25 i = 0 → mo_op2 i σ)), some (.inl (mo_lo i σ).1), (mo_lo i σ).2)
def fX8_lose (ln : sw_A) : sw_F := sw_foi 8 (gX8_lose ln)
def ctX8_lose (ln : sw_A) : sw_C := [(133, 1, 0, fX8_isSide ln), (194, 2, 9, fX8_dropOldest ln)]
abbrev wX8_lose (ln : sw_A) (Q : Option sw_V → sw_S → Prop) : Nat → Nat → sw_L → List sw_V → sw_S → Prop := sw_wp sw_rf ln (ctX8_lose ln) sX8_lose 2 24 tX8_lose Q
theorem hX8_lose (ln : sw_A) (k : Nat) (i : Int32) (σ : sw_S) (h : (gX8_lose ln k i σ).1) : ∃ fuel, wX8_lose ln (sw_end (gX8_lose ln k i σ)) fuel 0 (sw_ent 2 [.inr (some (8, k)), .inl i]) [] σ := by
  obtain ⟨hm, hp⟩ := h
  refine ⟨30, And.intro trivial (And.intro (fun (h1 : mo_is i = 0) => ⟨Or.inl rfl, sw_pe (if_pos h1)⟩) (fun (h1 : ¬ mo_is i = 0) => And.intro (hm.i (j := 25) rfl (hp h1).1) (And.intro (fun (h2 : ¬ mi σ 25 i = 0) => And.intro ⟨hm, (hp h1).2 h2⟩ ⟨Or.inr rfl, sw_pe ((if_neg h1).trans (if_neg h2))⟩) (fun (h2 : mi σ 25 i = 0) => ⟨Or.inl rfl, sw_pe ((if_neg h1).trans (if_pos h2))⟩))))⟩
set_option maxRecDepth 100000 in
theorem mX8_lose {l : Launch} {ad : sw_A} {V : Nat → Nat → Prop} {ln : sw_A} {ca : Nat → ClassId} {D : va_G} (hG : sw_wf ad V sw_rf ln) : sw_met l ad V sw_rf ln ca D yX8_lose cX8_lose 2 (some .boolean) { frames := 1, cells := 0, slots := 0, locals := 23 } 2 (fX8_lose ln) := by
  refine sw_meth hG (by decide) (by refine ⟨?_, ?_, ?_, ?_⟩ <;> intro h <;> first | rfl | exact ⟨_, rfl⟩ | exact absurd h (by decide)) (by decide) kX8_lose flX8_in cnX8_in ?_ (sw_foi_h (W := fun Q L σ => ∃ fuel, wX8_lose ln Q fuel 0 L [] σ) (fun a0 a1 σ h => hX8_lose ln a0 a1 σ h))
  intro p e s m args below meth c S hT hnw
  refine List.forall_mem_cons.mpr ⟨sw_cokS S hT hnw (mX8_isSide hG) 133 ⟨by decide +kernel, by decide +kernel, by decide +kernel, by decide +kernel⟩ ⟨rfl, by decide, by decide, by decide +kernel⟩ ⟨rfl, rfl⟩ ⟨by decide, by decide⟩, ?_⟩
  refine List.forall_mem_cons.mpr ⟨sw_cokV S hT hnw (mX8_dropOldest hG) 194 8 (by decide) ⟨by decide +kernel, by decide +kernel, by decide +kernel, by decide +kernel, by decide +kernel⟩ ⟨rfl, by decide, by decide, by decide +kernel⟩ ⟨rfl, rfl⟩ ⟨by decide, by decide⟩, ?_⟩
  exact fun q h => absurd h List.not_mem_nil
def mo_cx (i j : Int32) : Int32 := 380 * i + j
def mo_co (i j m : Int32) (σ : sw_S) : wi_P := if mo_is i = 0 then (0, σ) else if mi σ 25 i = 0 then (0, σ) else if j < 0 then (0, σ) else if mi σ 26 (20 * i) ≤ j then (0, σ) else if m = 0 then (0, σ) else (1, mis σ 27 (mo_cx i j) (mi σ 27 (mo_cx i j) ^^^ m))
def gX8_corrupt (ln : sw_A) (k : Nat) (i j m : Int32) (σ : sw_S) : sw_X := (mo ln ∧ (¬ mo_is i = 0 → vp_in i 2 ∧ vp_in (20 * i) 40 ∧ (¬ mi σ 25 i = 0 → ¬ j < 0 → ¬ mi σ 26 (20 * i) ≤ j → vp_in (mo_cx i j) 760)), some (.inl (mo_co i j m σ).1), (mo_co i j m σ).2)
def fX8_corrupt (ln : sw_A) : sw_F := sw_foiii 8 (gX8_corrupt ln)
def ctX8_corrupt (ln : sw_A) : sw_C := [(133, 1, 0, fX8_isSide ln)]
abbrev wX8_corrupt (ln : sw_A) (Q : Option sw_V → sw_S → Prop) : Nat → Nat → sw_L → List sw_V → sw_S → Prop := sw_wp sw_rf ln (ctX8_corrupt ln) sX8_corrupt 2 56 tX8_corrupt Q
theorem hX8_corrupt (ln : sw_A) (k : Nat) (i j m : Int32) (σ : sw_S) (h : (gX8_corrupt ln k i j m σ).1) : ∃ fuel, wX8_corrupt ln (sw_end (gX8_corrupt ln k i j m σ)) fuel 0 (sw_ent 4 [.inr (some (8, k)), .inl i, .inl j, .inl m]) [] σ := by
  obtain ⟨hm, hp⟩ := h
  refine ⟨40, And.intro trivial (And.intro (fun (h1 : mo_is i = 0) => ⟨Or.inl rfl, sw_pe (if_pos h1)⟩) (fun (h1 : ¬ mo_is i = 0) => And.intro (hm.i (j := 25) rfl (hp h1).1) (And.intro (fun (h2 : mi σ 25 i = 0) => ⟨Or.inl rfl, sw_pe ((if_neg h1).trans (if_pos h2))⟩) (fun (h2 : ¬ mi σ 25 i = 0) => And.intro (fun (h3 : j < 0) => ⟨Or.inl rfl, sw_pe ((if_neg h1).trans ((if_neg h2).trans (if_pos h3)))⟩) (fun (h3 : ¬ j < 0) => And.intro (hm.i (j := 26) rfl (hp h1).2.1) (And.intro (fun (h4 : mi σ 26 (20 * i) ≤ j) => ⟨Or.inl rfl, sw_pe ((if_neg h1).trans ((if_neg h2).trans ((if_neg h3).trans (if_pos h4))))⟩) (fun (h4 : ¬ mi σ 26 (20 * i) ≤ j) => And.intro (fun (h5 : ¬ m = 0) => ?_) (fun (h5 : m = 0) => ⟨Or.inl rfl, sw_pe ((if_neg h1).trans ((if_neg h2).trans ((if_neg h3).trans ((if_neg h4).trans (if_pos h5)))))⟩))))))))⟩
  have v := hm.i (j := 27) rfl ((hp h1).2.2 h2 h3 h4)
  exact And.intro v (And.intro v ⟨Or.inr rfl, sw_pe ((if_neg h1).trans ((if_neg h2).trans ((if_neg h3).trans ((if_neg h4).trans (if_neg h5)))))⟩)
set_option maxRecDepth 100000 in
theorem mX8_corrupt {l : Launch} {ad : sw_A} {V : Nat → Nat → Prop} {ln : sw_A} {ca : Nat → ClassId} {D : va_G} (hG : sw_wf ad V sw_rf ln) : sw_met l ad V sw_rf ln ca D yX8_corrupt cX8_corrupt 4 (some .boolean) { frames := 1, cells := 0, slots := 0, locals := 20 } 4 (fX8_corrupt ln) := by
  refine sw_meth hG (by decide) (by refine ⟨?_, ?_, ?_, ?_⟩ <;> intro h <;> first | rfl | exact ⟨_, rfl⟩ | exact absurd h (by decide)) (by decide) kX8_corrupt flX8_in cnX8_in ?_ (sw_foiii_h (W := fun Q L σ => ∃ fuel, wX8_corrupt ln Q fuel 0 L [] σ) (fun a0 a1 a2 a3 σ h => hX8_corrupt ln a0 a1 a2 a3 σ h))
  intro p e s m args below meth c S hT hnw
  refine List.forall_mem_cons.mpr ⟨sw_cokS S hT hnw (mX8_isSide hG) 133 ⟨by decide +kernel, by decide +kernel, by decide +kernel, by decide +kernel⟩ ⟨rfl, by decide, by decide, by decide +kernel⟩ ⟨rfl, rfl⟩ ⟨by decide, by decide⟩, ?_⟩
  exact fun q h => absurd h List.not_mem_nil
def mo_wx (i f j : Int32) : Int32 := 19 * (20 * i + f) + j
def mo_wr (i f j : Int32) (σ : sw_S) : Int32 := if mo_is i = 0 then 0 else if f < 0 then 0 else if mi σ 25 i ≤ f then 0 else if j < 0 then 0 else if j < mi σ 26 (20 * i + f) then mi σ 27 (mo_wx i f j) else 0
def gX8_wire (ln : sw_A) (k : Nat) (i f j : Int32) (σ : sw_S) : sw_X := (mo ln ∧ (¬ mo_is i = 0 → vp_in i 2 ∧ (¬ f < 0 → ¬ mi σ 25 i ≤ f → vp_in (20 * i + f) 40 ∧ (¬ j < 0 → j < mi σ 26 (20 * i + f) → vp_in (mo_wx i f j) 760))), some (.inl (mo_wr i f j σ)), σ)
def fX8_wire (ln : sw_A) : sw_F := sw_foiii 8 (gX8_wire ln)
def ctX8_wire (ln : sw_A) : sw_C := [(133, 1, 0, fX8_isSide ln)]
abbrev wX8_wire (ln : sw_A) (Q : Option sw_V → sw_S → Prop) : Nat → Nat → sw_L → List sw_V → sw_S → Prop := sw_wp sw_rf ln (ctX8_wire ln) sX8_wire 1 71 tX8_wire Q
theorem hX8_wire (ln : sw_A) (k : Nat) (i f j : Int32) (σ : sw_S) (h : (gX8_wire ln k i f j σ).1) : ∃ fuel, wX8_wire ln (sw_end (gX8_wire ln k i f j σ)) fuel 0 (sw_ent 4 [.inr (some (8, k)), .inl i, .inl f, .inl j]) [] σ := by
  obtain ⟨hm, hp⟩ := h
  refine ⟨60, And.intro trivial (And.intro (fun (h1 : mo_is i = 0) => ⟨sw_ri (if_pos h1).symm, rfl⟩) (fun (h1 : ¬ mo_is i = 0) => And.intro (fun (h2 : f < 0) => ⟨sw_ri ((if_neg h1).trans (if_pos h2)).symm, rfl⟩) (fun (h2 : ¬ f < 0) => And.intro (hm.i (j := 25) rfl (hp h1).1) (And.intro (fun (h3 : mi σ 25 i ≤ f) => ⟨sw_ri ((if_neg h1).trans ((if_neg h2).trans (if_pos h3))).symm, rfl⟩) (fun (h3 : ¬ mi σ 25 i ≤ f) => And.intro (fun (h4 : j < 0) => ⟨sw_ri ((if_neg h1).trans ((if_neg h2).trans ((if_neg h3).trans (if_pos h4)))).symm, rfl⟩) (fun (h4 : ¬ j < 0) => And.intro trivial (And.intro (fun (z : mo_is i = 0) => absurd z h1) (fun _ => And.intro (hm.i (j := 26) rfl ((hp h1).2 h2 h3).1) (And.intro (fun (h5 : j < mi σ 26 (20 * i + f)) => And.intro (hm.i (j := 27) rfl (((hp h1).2 h2 h3).2 h4 h5)) ⟨sw_ri ((if_neg h1).trans ((if_neg h2).trans ((if_neg h3).trans ((if_neg h4).trans (if_pos h5))))).symm, rfl⟩) (fun (h5 : ¬ j < mi σ 26 (20 * i + f)) => ⟨sw_ri ((if_neg h1).trans ((if_neg h2).trans ((if_neg h3).trans ((if_neg h4).trans (if_neg h5))))).symm, rfl⟩))))))))))⟩
set_option maxRecDepth 100000 in
theorem mX8_wire {l : Launch} {ad : sw_A} {V : Nat → Nat → Prop} {ln : sw_A} {ca : Nat → ClassId} {D : va_G} (hG : sw_wf ad V sw_rf ln) : sw_met l ad V sw_rf ln ca D yX8_wire cX8_wire 4 (some .int) { frames := 1, cells := 0, slots := 0, locals := 20 } 4 (fX8_wire ln) := by
  refine sw_meth hG (by decide) (by refine ⟨?_, ?_, ?_, ?_⟩ <;> intro h <;> first | rfl | exact ⟨_, rfl⟩ | exact absurd h (by decide)) (by decide) kX8_wire flX8_in cnX8_in ?_ (sw_foiii_h (W := fun Q L σ => ∃ fuel, wX8_wire ln Q fuel 0 L [] σ) (fun a0 a1 a2 a3 σ h => hX8_wire ln a0 a1 a2 a3 σ h))
  intro p e s m args below meth c S hT hnw
  refine List.forall_mem_cons.mpr ⟨sw_cokS S hT hnw (mX8_isSide hG) 133 ⟨by decide +kernel, by decide +kernel, by decide +kernel, by decide +kernel⟩ ⟨rfl, by decide, by decide, by decide +kernel⟩ ⟨rfl, rfl⟩ ⟨by decide, by decide⟩, ?_⟩
  exact fun q h => absurd h List.not_mem_nil
