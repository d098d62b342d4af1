/-! The reference: queueing, frames -/
def mo_p1 (x : Int32) (σ : sw_S) : Int32 := 400 * x + mi σ 16 x
def mo_pa (x w b : Int32) (σ : sw_S) : sw_S := mbs (mis σ 17 (mo_p1 x σ) w) 18 (mo_p1 x (mis σ 17 (mo_p1 x σ) w)) b
def mo_pb (x w b : Int32) (σ : sw_S) : sw_S := mis (mo_pa x w b σ) 16 x (mi (mo_pa x w b σ) 16 x + 1)
def mo_pu (k : Nat) (i t w b : Int32) (σ : sw_S) : wi_P := if mo_st k i t σ = 0 then (-1, σ) else if mi σ 6 (mo_ix i t) = 1 then (if mo_fr k i σ = 0 then (2, σ) else (1, mo_pb (mo_ix i t) w b σ)) else (0, σ)
def mo_pq (k : Nat) (i t : Int32) (σ : sw_S) : Prop := ¬ mo_st k i t σ = 0 → mo_fp k i σ ∧ vp_in (mo_ix i t) 16 ∧ (mi σ 6 (mo_ix i t) = 1 → ¬ mo_fr k i σ = 0 → vp_in (mo_p1 (mo_ix i t) σ) 6400)
def gX8_put (ln : sw_A) (k : Nat) (i t w b : Int32) (σ : sw_S) : sw_X := (mo ln ∧ mo_pq k i t σ ∧ sw_bo b, some (.inl (mo_pu k i t w b σ).1), (mo_pu k i t w b σ).2)
def fX8_put (ln : sw_A) : sw_F := sw_foiiii 8 (gX8_put ln)
def ctX8_put (ln : sw_A) : sw_C := [(137, 3, 9, fX8_isStream ln), (145, 2, 9, fX8_free ln)]
abbrev wX8_put (ln : sw_A) (Q : Option sw_V → sw_S → Prop) : Nat → Nat → sw_L → List sw_V → sw_S → Prop := sw_wp sw_rf ln (ctX8_put ln) sX8_put 1 95 tX8_put Q
theorem hX8_put (ln : sw_A) (k : Nat) (i t w b : Int32) (σ : sw_S) (h : (gX8_put ln k i t w b σ).1) : ∃ fuel, wX8_put ln (sw_end (gX8_put ln k i t w b σ)) fuel 0 (sw_ent 6 [.inr (some (8, k)), .inl i, .inl t, .inl w, .inl b]) [] σ := by
  obtain ⟨hm, hp, hb⟩ := h
  refine ⟨80, And.intro trivial (And.intro (fun (h1 : ¬ mo_st k i t σ = 0) => ?_) (fun (h1 : mo_st k i t σ = 0) => sw_pe (if_pos h1)))⟩
  obtain ⟨hf, hx, hv⟩ := hp h1
  refine And.intro (hm.i (j := 6) rfl hx) (And.intro (fun (h2 : mi σ 6 (mo_ix i t) = 1) => And.intro ⟨hm, hf⟩ (And.intro (fun (h3 : ¬ mo_fr k i σ = 0) => ?_) (fun (h3 : mo_fr k i σ = 0) => sw_pe ((if_neg h1).trans ((if_pos h2).trans (if_pos h3)))))) (fun (h2 : ¬ mi σ 6 (mo_ix i t) = 1) => sw_pe ((if_neg h1).trans (if_neg h2))))
  have v1 := hv h2 h3
  have v2 : vp_in (mo_p1 (mo_ix i t) (mis σ 17 (mo_p1 (mo_ix i t) σ) w)) 6400 := by
    have e : mo_p1 (mo_ix i t) (mis σ 17 (mo_p1 (mo_ix i t) σ) w) = mo_p1 (mo_ix i t) σ := by
      unfold mo_p1
      rw [show mi (mis σ 17 (400 * mo_ix i t + mi σ 16 (mo_ix i t)) w) 16 (mo_ix i t) = mi σ 16 (mo_ix i t) from sw_upi _ (by decide)]
    rw [e]
    exact v1
  exact And.intro (hm.i (j := 16) rfl hx) (And.intro (hm.i (j := 17) rfl v1) (And.intro (hm.i (j := 16) rfl hx) (And.intro (hm.z (j := 18) rfl v2) (And.intro hb (And.intro (hm.i (j := 16) rfl hx) (And.intro (hm.i (j := 16) rfl hx) (sw_pe ((if_neg h1).trans ((if_pos h2).trans (if_neg h3))))))))))
set_option maxRecDepth 100000 in
theorem mX8_put {l : Launch} {ad : sw_A} {V : Nat → Nat → Prop} {ln : sw_A} {ca : Nat → ClassId} {D : va_G} (hG : sw_wf ad V sw_rf ln) : sw_met l ad V sw_rf ln ca D yX8_put cX8_put 6 (some .int) { frames := 2, cells := 0, slots := 0, locals := 42 } 5 (fX8_put ln) := by
  refine sw_meth hG (by decide) (by refine ⟨?_, ?_, ?_, ?_⟩ <;> intro h <;> first | rfl | exact ⟨_, rfl⟩ | exact absurd h (by decide)) (by decide) kX8_put flX8_in cnX8_in ?_ (sw_foiiii_h (W := fun Q L σ => ∃ fuel, wX8_put ln Q fuel 0 L [] σ) (fun a0 a1 a2 a3 a4 σ h => hX8_put ln a0 a1 a2 a3 a4 σ h))
  intro p e s m args below meth c S hT hnw
  refine List.forall_mem_cons.mpr ⟨sw_cokV S hT hnw (mX8_isStream hG) 137 8 (by decide) ⟨by decide +kernel, by decide +kernel, by decide +kernel, by decide +kernel, by decide +kernel⟩ ⟨rfl, by decide, by decide, by decide +kernel⟩ ⟨rfl, rfl⟩ ⟨by decide, by decide⟩, ?_⟩
  refine List.forall_mem_cons.mpr ⟨sw_cokV S hT hnw (mX8_free hG) 145 8 (by decide) ⟨by decide +kernel, by decide +kernel, by decide +kernel, by decide +kernel, by decide +kernel⟩ ⟨rfl, by decide, by decide, by decide +kernel⟩ ⟨rfl, rfl⟩ ⟨by decide, by decide⟩, ?_⟩
  exact fun q h => absurd h List.not_mem_nil
def gX8_send (ln : sw_A) (k : Nat) (i t w : Int32) (σ : sw_S) : sw_X := (mo ln ∧ mo_pq k i t σ, some (.inl (mo_pu k i t w 0 σ).1), (mo_pu k i t w 0 σ).2)
def fX8_send (ln : sw_A) : sw_F := sw_foiii 8 (gX8_send ln)
def ctX8_send (ln : sw_A) : sw_C := [(149, 5, 9, fX8_put ln)]
abbrev wX8_send (ln : sw_A) (Q : Option sw_V → sw_S → Prop) : Nat → Nat → sw_L → List sw_V → sw_S → Prop := sw_wp sw_rf ln (ctX8_send ln) sX8_send 1 8 tX8_send Q
theorem hX8_send (ln : sw_A) (k : Nat) (i t w : Int32) (σ : sw_S) (h : (gX8_send ln k i t w σ).1) : ∃ fuel, wX8_send ln (sw_end (gX8_send ln k i t w σ)) fuel 0 (sw_ent 4 [.inr (some (8, k)), .inl i, .inl t, .inl w]) [] σ :=
  ⟨20, And.intro ⟨h.1, h.2, Or.inl rfl⟩ ⟨rfl, rfl⟩⟩
set_option maxRecDepth 100000 in
theorem mX8_send {l : Launch} {ad : sw_A} {V : Nat → Nat → Prop} {ln : sw_A} {ca : Nat → ClassId} {D : va_G} (hG : sw_wf ad V sw_rf ln) : sw_met l ad V sw_rf ln ca D yX8_send cX8_send 4 (some .int) { frames := 3, cells := 0, slots := 0, locals := 67 } 4 (fX8_send ln) := by
  refine sw_meth hG (by decide) (by refine ⟨?_, ?_, ?_, ?_⟩ <;> intro h <;> first | rfl | exact ⟨_, rfl⟩ | exact absurd h (by decide)) (by decide) kX8_send flX8_in cnX8_in ?_ (sw_foiii_h (W := fun Q L σ => ∃ fuel, wX8_send ln Q fuel 0 L [] σ) (fun a0 a1 a2 a3 σ h => hX8_send ln a0 a1 a2 a3 σ h))
  intro p e s m args below meth c S hT hnw
  refine List.forall_mem_cons.mpr ⟨sw_cokV S hT hnw (mX8_put hG) 149 8 (by decide) ⟨by decide +kernel, by decide +kernel, by decide +kernel, by decide +kernel, by decide +kernel⟩ ⟨rfl, by decide, by decide, by decide +kernel⟩ ⟨rfl, rfl⟩ ⟨by decide, by decide⟩, ?_⟩
  exact fun q h => absurd h List.not_mem_nil
def gX8_mark (ln : sw_A) (k : Nat) (i t : Int32) (σ : sw_S) : sw_X := (mo ln ∧ mo_pq k i t σ, some (.inl (mo_pu k i t 0 1 σ).1), (mo_pu k i t 0 1 σ).2)
def fX8_mark (ln : sw_A) : sw_F := sw_foii 8 (gX8_mark ln)
def ctX8_mark (ln : sw_A) : sw_C := [(149, 5, 9, fX8_put ln)]
abbrev wX8_mark (ln : sw_A) (Q : Option sw_V → sw_S → Prop) : Nat → Nat → sw_L → List sw_V → sw_S → Prop := sw_wp sw_rf ln (ctX8_mark ln) sX8_mark 1 8 tX8_mark Q
theorem hX8_mark (ln : sw_A) (k : Nat) (i t : Int32) (σ : sw_S) (h : (gX8_mark ln k i t σ).1) : ∃ fuel, wX8_mark ln (sw_end (gX8_mark ln k i t σ)) fuel 0 (sw_ent 3 [.inr (some (8, k)), .inl i, .inl t]) [] σ :=
  ⟨20, And.intro ⟨h.1, h.2, Or.inr rfl⟩ ⟨rfl, rfl⟩⟩
set_option maxRecDepth 100000 in
theorem mX8_mark {l : Launch} {ad : sw_A} {V : Nat → Nat → Prop} {ln : sw_A} {ca : Nat → ClassId} {D : va_G} (hG : sw_wf ad V sw_rf ln) : sw_met l ad V sw_rf ln ca D yX8_mark cX8_mark 3 (some .int) { frames := 3, cells := 0, slots := 0, locals := 67 } 3 (fX8_mark ln) := by
  refine sw_meth hG (by decide) (by refine ⟨?_, ?_, ?_, ?_⟩ <;> intro h <;> first | rfl | exact ⟨_, rfl⟩ | exact absurd h (by decide)) (by decide) kX8_mark flX8_in cnX8_in ?_ (sw_foii_h (W := fun Q L σ => ∃ fuel, wX8_mark ln Q fuel 0 L [] σ) (fun a0 a1 a2 σ h => hX8_mark ln a0 a1 a2 σ h))
  intro p e s m args below meth c S hT hnw
  refine List.forall_mem_cons.mpr ⟨sw_cokV S hT hnw (mX8_put hG) 149 8 (by decide) ⟨by decide +kernel, by decide +kernel, by decide +kernel, by decide +kernel, by decide +kernel⟩ ⟨rfl, by decide, by decide, by decide +kernel⟩ ⟨rfl, rfl⟩ ⟨by decide, by decide⟩, ?_⟩
  exact fun q h => absurd h List.not_mem_nil
def gX8_sumOf (ln : sw_A) (k : Nat) (e : Int32) (σ : sw_S) : sw_X := (mo ln ∧ 0 ≤ e ∧ e ≤ 19, some (.inl (sm (mi σ 38) e.toNatClampNeg)), σ)
def fX8_sumOf (ln : sw_A) : sw_F := sw_foi 8 (gX8_sumOf ln)
def ctX8_sumOf (ln : sw_A) : sw_C := []
abbrev wX8_sumOf (ln : sw_A) (Q : Option sw_V → sw_S → Prop) : Nat → Nat → sw_L → List sw_V → sw_S → Prop := sw_wp sw_rf ln (ctX8_sumOf ln) sX8_sumOf 1 71 tX8_sumOf Q
theorem hX8_sumOf_l (ln : sw_A) (k n : Nat) (σ : sw_S) (X : sw_X) (hm : mo ln) (hn : n ≤ 19) (hX : X.2 = (some (.inl (sm (mi σ 38) n)), σ)) : ∀ (d j : Nat), j + d = n → ∃ fuel, wX8_sumOf ln (sw_end X) fuel 7 [some (.inr (some (8, k))), some (.inl (nI n)), some (.inl (sm_ab (mi σ 38) j).1), some (.inl (sm_ab (mi σ 38) j).2), some (.inl (nI j))] [] σ := by
  intro d
  induction d with
  | zero =>
    intro j hj
    have hj : j = n := by omega
    subst hj
    refine ⟨20, And.intro (fun _ => ?_) (fun h => absurd (Int32.le_refl _) h)⟩
    show some _ = X.2.1 ∧ σ = X.2.2
    rw [hX]
    exact ⟨rfl, rfl⟩
  | succ d ih =>
    intro j hj
    have v := hm.i (j := 38) (n := 19) rfl (vp_in_nI (n := j) (by omega) (by omega))
    obtain ⟨f, hf⟩ := ih (j + 1) (by omega)
    rw [← nI_1] at hf
    refine ⟨f + 60, sw_ws_wp [7] f 60 _ _ _ _ ?_⟩
    refine And.intro (fun h => absurd h (nI_ge (by omega) (by omega))) (fun _ => And.intro v (And.intro (by decide) (And.intro (by decide) (And.intro v (And.intro (by decide) (And.intro (by decide) ?_))))))
    exact hf
theorem hX8_sumOf (ln : sw_A) (k : Nat) (e : Int32) (σ : sw_S) (h : (gX8_sumOf ln k e σ).1) : ∃ fuel, wX8_sumOf ln (sw_end (gX8_sumOf ln k e σ)) fuel 0 (sw_ent 5 [.inr (some (8, k)), .inl e]) [] σ := by
  obtain ⟨hm, h0, h1⟩ := h
  obtain ⟨n, hn, rfl⟩ := nI_of (Int32.not_lt.mpr h0)
  have hn2 : n ≤ 19 := (nI_leI hn (b := 19) (by decide)).mp h1
  obtain ⟨f, hf⟩ := hX8_sumOf_l ln k n σ (gX8_sumOf ln k (nI n) σ) hm hn2 (by
    show (some (Sum.inl (sm (mi σ 38) (nI n).toNatClampNeg)), σ) = _
    rw [nI_clamp hn]) n 0 (by omega)
  exact ⟨f + 10, sw_ws_wp [7] f 10 _ _ _ _ hf⟩
set_option maxRecDepth 100000 in
theorem mX8_sumOf {l : Launch} {ad : sw_A} {V : Nat → Nat → Prop} {ln : sw_A} {ca : Nat → ClassId} {D : va_G} (hG : sw_wf ad V sw_rf ln) : sw_met l ad V sw_rf ln ca D yX8_sumOf cX8_sumOf 5 (some .int) { frames := 0, cells := 0, slots := 0, locals := 0 } 2 (fX8_sumOf ln) := by
  refine sw_meth hG (by decide) (by refine ⟨?_, ?_, ?_, ?_⟩ <;> intro h <;> first | rfl | exact ⟨_, rfl⟩ | exact absurd h (by decide)) (by decide) kX8_sumOf flX8_in cnX8_in ?_ (sw_foi_h (W := fun Q L σ => ∃ fuel, wX8_sumOf ln Q fuel 0 L [] σ) (fun a0 a1 σ h => hX8_sumOf ln a0 a1 σ h))
  intro p e s m args below meth c S hT hnw
  exact fun q h => absurd h List.not_mem_nil
def mo_nu (i kd : Int32) (σ : sw_S) : Int32 := if kd = 0 then 0 else mi σ 28 i
def mo_hd (i kd t ct : Int32) (σ : sw_S) : Int32 := kd ||| t <<< (3 &&& 31) ||| mo_nu i kd σ <<< (8 &&& 31) ||| mi σ 29 i <<< (16 &&& 31) ||| ct <<< (24 &&& 31)
def mo_bf (k : Nat) (i kd t ct : Int32) (σ : sw_S) : sw_S := sw_up (mis σ 38 0 (mo_hd i kd t ct σ)) 8 k 39 1
def gX8_beginFrame (ln : sw_A) (k : Nat) (i kd t ct : Int32) (σ : sw_S) : sw_X := (mo ln ∧ vp_in i 2, none, mo_bf k i kd t ct σ)
def fX8_beginFrame (ln : sw_A) : sw_F := sw_foiiii 8 (gX8_beginFrame ln)
def ctX8_beginFrame (ln : sw_A) : sw_C := []
abbrev wX8_beginFrame (ln : sw_A) (Q : Option sw_V → sw_S → Prop) : Nat → Nat → sw_L → List sw_V → sw_S → Prop := sw_wp sw_rf ln (ctX8_beginFrame ln) sX8_beginFrame 0 54 tX8_beginFrame Q
theorem vp_0_19 : vp_in 0 19 := by
  rw [← nI_0]
  exact vp_in_nI (by decide) (by decide)
theorem hX8_beginFrame (ln : sw_A) (k : Nat) (i kd t ct : Int32) (σ : sw_S) (h : (gX8_beginFrame ln k i kd t ct σ).1) : ∃ fuel, wX8_beginFrame ln (sw_end (gX8_beginFrame ln k i kd t ct σ)) fuel 0 (sw_ent 6 [.inr (some (8, k)), .inl i, .inl kd, .inl t, .inl ct]) [] σ := by
  obtain ⟨hm, hi⟩ := h
  refine ⟨50, And.intro (fun (h1 : ¬ kd = 0) => And.intro (hm.i (j := 28) rfl hi) (And.intro (hm.i (j := 29) rfl hi) (And.intro (hm.i (j := 38) rfl vp_0_19) ⟨rfl, ?_⟩))) (fun (h1 : kd = 0) => And.intro (hm.i (j := 29) rfl hi) (And.intro (hm.i (j := 38) rfl vp_0_19) ⟨rfl, ?_⟩))⟩
  · show _ = mo_bf k i kd t ct σ
    unfold mo_bf mo_hd mo_nu
    rw [if_neg h1]
    rfl
  · show _ = mo_bf k i kd t ct σ
    unfold mo_bf mo_hd mo_nu
    rw [if_pos h1]
    rfl
set_option maxRecDepth 100000 in
theorem mX8_beginFrame {l : Launch} {ad : sw_A} {V : Nat → Nat → Prop} {ln : sw_A} {ca : Nat → ClassId} {D : va_G} (hG : sw_wf ad V sw_rf ln) : sw_met l ad V sw_rf ln ca D yX8_beginFrame cX8_beginFrame 6 none { frames := 0, cells := 0, slots := 0, locals := 0 } 5 (fX8_beginFrame ln) := by
  refine sw_meth hG (by decide) (by refine ⟨?_, ?_, ?_, ?_⟩ <;> intro h <;> first | rfl | exact ⟨_, rfl⟩ | exact absurd h (by decide)) (by decide) kX8_beginFrame flX8_in cnX8_in ?_ (sw_foiiii_h (W := fun Q L σ => ∃ fuel, wX8_beginFrame ln Q fuel 0 L [] σ) (fun a0 a1 a2 a3 a4 σ h => hX8_beginFrame ln a0 a1 a2 a3 a4 σ h))
  intro p e s m args below meth c S hT hnw
  exact fun q h => absurd h List.not_mem_nil
def mo_ad (k : Nat) (w : Int32) (σ : sw_S) : sw_S := sw_up (mis σ 38 (σ 8 k 39) w) 8 k 39 (mis σ 38 (σ 8 k 39) w 8 k 39 + 1)
def gX8_add (ln : sw_A) (k : Nat) (w : Int32) (σ : sw_S) : sw_X := (mo ln ∧ vp_in (σ 8 k 39) 19, none, mo_ad k w σ)
def fX8_add (ln : sw_A) : sw_F := sw_foi 8 (gX8_add ln)
def ctX8_add (ln : sw_A) : sw_C := []
abbrev wX8_add (ln : sw_A) (Q : Option sw_V → sw_S → Prop) : Nat → Nat → sw_L → List sw_V → sw_S → Prop := sw_wp sw_rf ln (ctX8_add ln) sX8_add 0 20 tX8_add Q
theorem hX8_add (ln : sw_A) (k : Nat) (w : Int32) (σ : sw_S) (h : (gX8_add ln k w σ).1) : ∃ fuel, wX8_add ln (sw_end (gX8_add ln k w σ)) fuel 0 (sw_ent 2 [.inr (some (8, k)), .inl w]) [] σ :=
  ⟨20, And.intro (h.1.i (j := 38) rfl h.2) ⟨rfl, rfl⟩⟩
set_option maxRecDepth 100000 in
theorem mX8_add {l : Launch} {ad : sw_A} {V : Nat → Nat → Prop} {ln : sw_A} {ca : Nat → ClassId} {D : va_G} (hG : sw_wf ad V sw_rf ln) : sw_met l ad V sw_rf ln ca D yX8_add cX8_add 2 none { frames := 0, cells := 0, slots := 0, locals := 0 } 2 (fX8_add ln) := by
  refine sw_meth hG (by decide) (by refine ⟨?_, ?_, ?_, ?_⟩ <;> intro h <;> first | rfl | exact ⟨_, rfl⟩ | exact absurd h (by decide)) (by decide) kX8_add flX8_in cnX8_in ?_ (sw_foi_h (W := fun Q L σ => ∃ fuel, wX8_add ln Q fuel 0 L [] σ) (fun a0 a1 σ h => hX8_add ln a0 a1 σ h))
  intro p e s m args below meth c S hT hnw
  exact fun q h => absurd h List.not_mem_nil
/-- the frame's words go to place q of the row a -/
def mo_cp (a : Nat) (q : Int32) : Nat → sw_S → sw_S
  | 0, σ => σ
  | n + 1, σ => mis (mo_cp a q n σ) a (19 * q + nI n) (mi (mo_cp a q n σ) 38 (nI n))
theorem mo_cp_k (a : Nat) (q : Int32) {c k' : Nat} (h : ¬ (c = 15 ∧ k' = a)) (j' : Nat) : ∀ (n : Nat) (σ : sw_S), mo_cp a q n σ c k' j' = σ c k' j'
  | 0, _ => rfl
  | n + 1, σ => (if_neg (fun z => h ⟨z.1, z.2.1⟩)).trans (mo_cp_k a q h j' n σ)
def mo_wk (i : Int32) (σ : sw_S) : Int32 := 20 * i + mi σ 25 i
def mo_w1 (k : Nat) (i : Int32) (σ : sw_S) : sw_S := mis σ 26 (mo_wk i σ) (σ 8 k 39)
def mo_w2 (i : Int32) (a : sw_S) : sw_S := mis a 25 i (mi a 25 i + 1)
def mo_w3 (i : Int32) (a : sw_S) : sw_S := mis a 33 i (mi a 33 i + 1)
def mo_wi (k : Nat) (i : Int32) (σ : sw_S) : sw_S := mbs (mo_w3 i (mo_w2 i (mo_cp 27 (mo_wk i σ) (σ 8 k 39).toNatClampNeg (mo_w1 k i σ)))) 32 i 0
def mo_wp (k : Nat) (i : Int32) (σ : sw_S) : Prop := vp_in i 2 ∧ vp_in (mo_wk i σ) 40 ∧ 0 ≤ σ 8 k 39 ∧ σ 8 k 39 ≤ 19 ∧ ∀ n, n < 19 → vp_in (19 * mo_wk i σ + nI n) 760
def gX8_ontoWire (ln : sw_A) (k : Nat) (i : Int32) (σ : sw_S) : sw_X := (mo ln ∧ mo_wp k i σ, none, mo_wi k i σ)
def fX8_ontoWire (ln : sw_A) : sw_F := sw_foi 8 (gX8_ontoWire ln)
def ctX8_ontoWire (ln : sw_A) : sw_C := []
abbrev wX8_ontoWire (ln : sw_A) (Q : Option sw_V → sw_S → Prop) : Nat → Nat → sw_L → List sw_V → sw_S → Prop := sw_wp sw_rf ln (ctX8_ontoWire ln) sX8_ontoWire 0 82 tX8_ontoWire Q
theorem hX8_ontoWire_l (ln : sw_A) (k n : Nat) (i q : Int32) (σ : sw_S) (X : sw_X) (hm : mo ln) (hi : vp_in i 2) (hn : n ≤ 19) (hz : σ 8 k 39 = nI n) (hb : ∀ n, n < 19 → vp_in (19 * q + nI n) 760) (hX : X.2 = (none, mbs (mo_w3 i (mo_w2 i (mo_cp 27 q n σ))) 32 i 0)) : ∀ (d j : Nat), j + d = n → ∃ fuel, wX8_ontoWire ln (sw_end X) fuel 24 [some (.inr (some (8, k))), some (.inl i), some (.inl q), some (.inl (nI j))] [] (mo_cp 27 q j σ) := by
  intro d
  induction d with
  | zero =>
    intro j hj
    have hj : j = n := by omega
    subst hj
    have hl : mo_cp 27 q j σ 8 k 39 = nI j := (mo_cp_k 27 q (fun z => absurd z.1 (by decide)) 39 j σ).trans hz
    refine ⟨40, And.intro (fun _ => And.intro (hm.i (j := 25) rfl hi) (And.intro (hm.i (j := 25) rfl hi) (And.intro (hm.i (j := 33) rfl hi) (And.intro (hm.i (j := 33) rfl hi) (And.intro (hm.z (j := 32) rfl hi) (And.intro (Or.inl rfl) ?_)))))) (fun (h : ¬ mo_cp 27 q j σ 8 k 39 ≤ nI j) => absurd (by rw [hl]; exact Int32.le_refl _) h)⟩
    show none = X.2.1 ∧ mbs (mo_w3 i (mo_w2 i (mo_cp 27 q j σ))) 32 i 0 = X.2.2
    rw [hX]
    exact ⟨rfl, rfl⟩
  | succ d ih =>
    intro j hj
    have hl : mo_cp 27 q j σ 8 k 39 = nI n := (mo_cp_k 27 q (fun z => absurd z.1 (by decide)) 39 j σ).trans hz
    have v1 := hm.i (j := 38) (n := 19) rfl (vp_in_nI (n := j) (by omega) (by omega))
    have v2 := hm.i (j := 27) rfl (hb j (by omega))
    obtain ⟨f, hf⟩ := ih (j + 1) (by omega)
    rw [← nI_1] at hf
    refine ⟨f + 40, sw_ws_wp [24] f 40 _ _ _ _ ?_⟩
    refine And.intro (fun (h : mo_cp 27 q j σ 8 k 39 ≤ nI j) => absurd (by rw [← hl]; exact h) (nI_ge (a := j) (b := n) (by omega) (by omega))) (fun _ => And.intro v1 (And.intro v2 ?_))
    exact hf
theorem hX8_ontoWire (ln : sw_A) (k : Nat) (i : Int32) (σ : sw_S) (h : (gX8_ontoWire ln k i σ).1) : ∃ fuel, wX8_ontoWire ln (sw_end (gX8_ontoWire ln k i σ)) fuel 0 (sw_ent 4 [.inr (some (8, k)), .inl i]) [] σ := by
  obtain ⟨hm, hi, hk, h0, h1, hb⟩ := h
  obtain ⟨n, hn, hz⟩ := nI_of (Int32.not_lt.mpr h0)
  rw [hz] at h1
  have hn2 : n ≤ 19 := (nI_leI hn (b := 19) (by decide)).mp h1
  obtain ⟨f, hf⟩ := hX8_ontoWire_l ln k n i (mo_wk i σ) (mo_w1 k i σ) (gX8_ontoWire ln k i σ) hm hi hn2 ((sw_upk _ (by decide)).trans hz) hb (by
    show (none, mo_wi k i σ) = _
    unfold mo_wi
    rw [hz, nI_clamp hn]) n 0 (by omega)
  refine ⟨f + 30, sw_ws_wp [24] f 30 _ _ _ _ ?_⟩
  exact And.intro (hm.i (j := 25) rfl hi) (And.intro (hm.i (j := 26) rfl hk) hf)
set_option maxRecDepth 100000 in
theorem mX8_ontoWire {l : Launch} {ad : sw_A} {V : Nat → Nat → Prop} {ln : sw_A} {ca : Nat → ClassId} {D : va_G} (hG : sw_wf ad V sw_rf ln) : sw_met l ad V sw_rf ln ca D yX8_ontoWire cX8_ontoWire 4 none { frames := 0, cells := 0, slots := 0, locals := 0 } 2 (fX8_ontoWire ln) := by
  refine sw_meth hG (by decide) (by refine ⟨?_, ?_, ?_, ?_⟩ <;> intro h <;> first | rfl | exact ⟨_, rfl⟩ | exact absurd h (by decide)) (by decide) kX8_ontoWire flX8_in cnX8_in ?_ (sw_foi_h (W := fun Q L σ => ∃ fuel, wX8_ontoWire ln Q fuel 0 L [] σ) (fun a0 a1 σ h => hX8_ontoWire ln a0 a1 σ h))
  intro p e s m args below meth c S hT hnw
  exact fun q h => absurd h List.not_mem_nil
