/-! Side: settling, meeting, sending again, telling -/
def sd_dr (ln : sw_A) (r : Nat) : Nat → sw_S → sw_S
  | 0, σ => σ
  | n + 1, σ => (gX3_dropFirst ln r (sd_dr ln r n σ)).2.2
theorem drop_k (ln : sw_A) (r : Nat) (σ : sw_S) {c : Nat} (h3 : ¬ c = 3) (k' j' : Nat) : (gX3_dropFirst ln r σ).2.2 c k' j' = σ c k' j' := by
  show (if σ 3 r 2 = 0 then σ else rg_df ln r σ) c k' j' = _
  split
  · rfl
  · unfold rg_df
    rw [sw_upk _ h3, sw_upk _ h3]
theorem sd_dr_k (ln : sw_A) (r : Nat) {c : Nat} (h3 : ¬ c = 3) (k' j' : Nat) : ∀ (n : Nat) (σ : sw_S), sd_dr ln r n σ c k' j' = σ c k' j'
  | 0, _ => rfl
  | n + 1, σ => (drop_k ln r _ h3 k' j').trans (sd_dr_k ln r h3 k' j' n σ)
def sd_se (ln : sw_A) (s : Nat) (x : Int32) (σ : sw_S) : sw_S := if li_sb 0 (σ 6 s 5) x σ ≤ σ 3 (2 * s) 2 then sw_up (sd_dr ln (2 * s) (li_sb 0 (σ 6 s 5) x σ).toNatClampNeg σ) 6 s 5 x else σ
def gX6_settleBefore (ln : sw_A) (s : Nat) (x : Int32) (σ : sw_S) : sw_X := (0 ≤ li_sb 0 (σ 6 s 5) x σ, none, sd_se ln s x σ)
def fX6_settleBefore (ln : sw_A) : sw_F := sw_foi 6 (gX6_settleBefore ln)
def ctX6_settleBefore (ln : sw_A) : sw_C := [(280, 3, 5, fX4_stepsBetween ln), (120, 1, 4, fX3_size ln), (283, 1, 4, fX3_dropFirst ln)]
abbrev wX6_settleBefore (ln : sw_A) (Q : Option sw_V → sw_S → Prop) : Nat → Nat → sw_L → List sw_V → sw_S → Prop := sw_wp sw_rf ln (ctX6_settleBefore ln) sX6_settleBefore 0 51 tX6_settleBefore Q
theorem hX6_settleBefore_l (ln : sw_A) (s n : Nat) (x : Int32) (σ : sw_S) (X : sw_X) (hn : n < 2 ^ 31) (hX : X.2 = (none, sw_up (sd_dr ln (2 * s) n σ) 6 s 5 x)) : ∀ (d j : Nat), j + d = n → ∃ fuel, wX6_settleBefore ln (sw_end X) fuel 27 [some (.inr (some (6, s))), some (.inl x), some (.inl (nI n)), some (.inl (nI j))] [] (sd_dr ln (2 * s) j σ) := by
  intro d
  induction d with
  | zero =>
    intro j hj
    have hj : j = n := by omega
    subst hj
    refine ⟨20, And.intro (fun _ => ?_) (fun (h : ¬ nI j ≤ nI j) => absurd (Int32.le_refl _) h)⟩
    show none = X.2.1 ∧ sw_up (sd_dr ln (2 * s) j σ) 6 s 5 x = X.2.2
    rw [hX]
    exact ⟨rfl, rfl⟩
  | succ d ih =>
    intro j hj
    obtain ⟨f, hf⟩ := ih (j + 1) (by omega)
    rw [← nI_1] at hf
    refine ⟨f + 30, sw_ws_wp [27] f 30 _ _ _ _ ?_⟩
    exact And.intro (fun (h : nI n ≤ nI j) => absurd h (nI_ge (a := j) (b := n) (by omega) hn)) (fun _ => And.intro trivial hf)
theorem hX6_settleBefore (ln : sw_A) (s : Nat) (x : Int32) (σ : sw_S) (h : (gX6_settleBefore ln s x σ).1) : ∃ fuel, wX6_settleBefore ln (sw_end (gX6_settleBefore ln s x σ)) fuel 0 (sw_ent 4 [.inr (some (6, s)), .inl x]) [] σ := by
  obtain ⟨n, hn, hc⟩ := nI_of (Int32.not_lt.mpr h)
  by_cases h1 : li_sb 0 (σ 6 s 5) x σ ≤ σ 3 (2 * s) 2
  · obtain ⟨f, hf⟩ := hX6_settleBefore_l ln s n x σ (gX6_settleBefore ln s x σ) hn (by
      show (none, sd_se ln s x σ) = _
      unfold sd_se
      rw [if_pos h1, hc, nI_clamp hn]) n 0 (by omega)
    rw [← hc] at hf
    refine ⟨f + 30, sw_ws_wp [27] f 30 _ _ _ _ ?_⟩
    exact And.intro trivial (And.intro trivial (And.intro (fun _ => hf) (fun z => absurd h1 z)))
  · refine ⟨30, And.intro trivial (And.intro trivial (And.intro (fun z => absurd z h1) (fun _ => ⟨rfl, ?_⟩)))⟩
    exact (if_neg h1).symm
set_option maxRecDepth 100000 in
theorem mX6_settleBefore {l : Launch} {ad : sw_A} {V : Nat → Nat → Prop} {ln : sw_A} {ca : Nat → ClassId} {D : va_G} (hG : sw_wf ad V sw_rf ln) : sw_met l ad V sw_rf ln ca D yX6_settleBefore cX6_settleBefore 4 none { frames := 1, cells := 0, slots := 0, locals := 22 } 2 (fX6_settleBefore ln) := by
  refine sw_meth hG (by decide) (by refine ⟨?_, ?_, ?_, ?_⟩ <;> intro h <;> first | rfl | exact ⟨_, rfl⟩ | exact absurd h (by decide)) (by decide) kX6_settleBefore flX6_in cnX6_in ?_ (sw_foi_h (W := fun Q L σ => ∃ fuel, wX6_settleBefore ln Q fuel 0 L [] σ) (fun a0 a1 σ h => hX6_settleBefore ln a0 a1 σ h))
  intro p e s m args below meth c S hT hnw
  refine List.forall_mem_cons.mpr ⟨sw_cokV S hT hnw (mX4_stepsBetween hG) 280 4 (by decide) ⟨by decide +kernel, by decide +kernel, by decide +kernel, by decide +kernel, by decide +kernel⟩ ⟨rfl, by decide, by decide, by decide +kernel⟩ ⟨rfl, rfl⟩ ⟨by decide, by decide⟩, ?_⟩
  refine List.forall_mem_cons.mpr ⟨sw_cokV S hT hnw (mX3_size hG) 120 3 (by decide) ⟨by decide +kernel, by decide +kernel, by decide +kernel, by decide +kernel, by decide +kernel⟩ ⟨rfl, by decide, by decide, by decide +kernel⟩ ⟨rfl, rfl⟩ ⟨by decide, by decide⟩, ?_⟩
  refine List.forall_mem_cons.mpr ⟨sw_cokV S hT hnw (mX3_dropFirst hG) 283 3 (by decide) ⟨by decide +kernel, by decide +kernel, by decide +kernel, by decide +kernel, by decide +kernel⟩ ⟨rfl, by decide, by decide, by decide +kernel⟩ ⟨rfl, rfl⟩ ⟨by decide, by decide⟩, ?_⟩
  exact fun q h => absurd h List.not_mem_nil
theorem sd_se_k (ln : sw_A) (s : Nat) (x : Int32) (σ : sw_S) {c : Nat} (h3 : ¬ c = 3) (h6 : ¬ c = 6) (k' j' : Nat) : sd_se ln s x σ c k' j' = σ c k' j' := by
  unfold sd_se
  split
  · rw [sw_upk _ h6]
    exact sd_dr_k ln _ h3 k' j' _ _
  · rfl
theorem sd_se_fr (ln : sw_A) (s : Nat) (x : Int32) (σ : sw_S) (f : Nat) : fr_at (sd_se ln s x σ) f = fr_at σ f := fr_at_eq (fun j => sd_se_k ln s x σ (by decide) (by decide) f j) (fun j => sd_se_k ln s x σ (by decide) (by decide) f j)
def sd_m4 (s : Nat) (a : sw_S) : sw_S := sw_up (sw_up a 6 s 14 (a 6 s 14 + 1)) 6 s 9 1
def sd_m1 (s : Nat) (a : sw_S) : sw_S := sw_up a 6 s 6 (li_nb 0 (a 6 s 6) 1 a)
def sd_m2 (s : Nat) (a : sw_S) : sw_S := sw_up (sw_up a 6 s 12 (a 6 s 12 + 1)) 6 s 9 1
def sd_rf (s : Nat) (a : sw_S) : Int32 × sw_S := (2, sw_up a 6 s 13 (a 6 s 13 + 1))
def sd_mw (ln : sw_A) (s f : Nat) (a : sw_S) : Option (Nat × Nat) → Int32 × sw_S
  | none => sd_rf s a
  | some q => if fl_ct q.2 f a = 0 then sd_rf s a else (1, sd_m2 s (sd_m1 s (fl_tk ln q.2 f a)))
def sd_ma (ln : sw_A) (s f : Nat) (a : sw_S) : Int32 × sw_S := if fr_kd a f = 0 then (3, a) else if fr_nu a f = a 6 s 6 then sd_mw ln s f a (sd_fa ln s (fr_sn a f)) else (4, sd_m4 s a)
def sd_mp (ln : sw_A) (s f : Nat) (σ : sw_S) : Int32 × sw_S := if fr_so σ f 0 = 0 then sd_rf s σ else sd_ma ln s f (sd_se ln s (fr_wa σ f) σ)
def gX6_meet (ln : sw_A) (s f : Nat) (σ : sw_S) : sw_X := (lo ln ∧ fg ln σ ∧ 0 ≤ fr_rl σ f ∧ (¬ fr_so σ f 0 = 0 → 0 ≤ li_sb 0 (σ 6 s 5) (fr_wa σ f) σ), some (.inl (sd_mp ln s f σ).1), (sd_mp ln s f σ).2)
def fX6_meet (ln : sw_A) : sw_F := sw_foo 6 2 (gX6_meet ln)
def ctX6_meet (ln : sw_A) : sw_C := [(242, 2, 3, fX2_isSound ln), (246, 1, 7, fX6_refuse ln), (249, 1, 3, fX2_wanted ln), (252, 2, 7, fX6_settleBefore ln), (255, 1, 3, fX2_kind ln), (258, 1, 3, fX2_number ln), (264, 1, 3, fX2_streamNumber ln), (156, 2, 7, fX6_flowAt ln), (267, 2, 2, fX1_canTake ln), (271, 2, 2, fX1_take ln), (214, 3, 5, fX4_numberBehind ln)]
abbrev wX6_meet (ln : sw_A) (Q : Option sw_V → sw_S → Prop) : Nat → Nat → sw_L → List sw_V → sw_S → Prop := sw_wp sw_rf ln (ctX6_meet ln) sX6_meet 1 124 tX6_meet Q
theorem sd_fa_1 {ln : sw_A} {s : Nat} {i : Int32} {q : Nat × Nat} (h : sd_fa ln s i = some q) : q.1 = 1 := by
  unfold sd_fa at h
  split at h
  · cases h
  · split at h
    · cases h
    · cases h; rfl
theorem hX6_meet (ln : sw_A) (s f : Nat) (σ : sw_S) (h : (gX6_meet ln s f σ).1) : ∃ fuel, wX6_meet ln (sw_end (gX6_meet ln s f σ)) fuel 0 (sw_ent 3 [.inr (some (6, s)), .inr (some (2, f))]) [] σ := by
  obtain ⟨hl, hg, hr, hc⟩ := h
  by_cases h1 : fr_so σ f 0 = 0
  · refine ⟨30, And.intro ⟨hg.ok hl f, hr⟩ (And.intro (fun z => absurd h1 z) (fun _ => And.intro trivial ?_))⟩
    show some (Sum.inl 2) = some (Sum.inl (sd_mp ln s f σ).1) ∧ (sd_rf s σ).2 = (sd_mp ln s f σ).2
    unfold sd_mp
    rw [if_pos h1]
    exact ⟨rfl, rfl⟩
  · obtain ⟨a, ha⟩ : ∃ a, a = sd_se ln s (fr_wa σ f) σ := ⟨_, rfl⟩
    have hfr : fr_at a f = fr_at σ f := by rw [ha]; exact sd_se_fr ln s _ σ f
    have hga : fg ln a := by rw [ha]; exact fg_eq hg (fun k => sd_se_k ln s _ σ (by decide) (by decide) k 1)
    have hmp : sd_mp ln s f σ = sd_ma ln s f a := by unfold sd_mp; rw [if_neg h1, ← ha]
    have hka := hga.ok hl f
    have k69 : fr_kd a f ≠ 0 → fr_nu a f = a 6 s 6 → ∃ M, ∀ r, r = sd_fa ln s (fr_sn a f) → wX6_meet ln (sw_end (gX6_meet ln s f σ)) M 69 [some (.inr (some (6, s))), some (.inr (some (2, f))), none] [.inr r] a := by
      intro e1 e2
      refine ⟨50, fun r hr2 => ?_⟩
      have hw : sd_mp ln s f σ = sd_mw ln s f a r := by rw [hmp]; unfold sd_ma; rw [if_neg e1, if_pos e2, ← hr2]
      cases r with
      | none =>
        refine And.intro trivial ?_
        show some (Sum.inl 2) = some (Sum.inl (sd_mp ln s f σ).1) ∧ (sd_rf s a).2 = (sd_mp ln s f σ).2
        rw [hw]
        exact ⟨rfl, rfl⟩
      | some q =>
        obtain ⟨q1, w⟩ := q
        have e3 : q1 = 1 := sd_fa_1 hr2.symm
        subst e3
        refine And.intro hka (And.intro (fun (a1 : ¬ fl_ct w f a = 0) => And.intro ⟨hka, hl.ce _⟩ (And.intro trivial (And.intro (Or.inr rfl) ?_))) (fun (a1 : fl_ct w f a = 0) => And.intro trivial ?_))
        · show some (Sum.inl 1) = some (Sum.inl (sd_mp ln s f σ).1) ∧ sd_m2 s (sd_m1 s (fl_tk ln w f a)) = (sd_mp ln s f σ).2
          rw [hw, show sd_mw ln s f a (some (1, w)) = _ from if_neg a1]
          exact ⟨rfl, rfl⟩
        · show some (Sum.inl 2) = some (Sum.inl (sd_mp ln s f σ).1) ∧ (sd_rf s a).2 = (sd_mp ln s f σ).2
          rw [hw, show sd_mw ln s f a (some (1, w)) = _ from if_pos a1]
          exact ⟨rfl, rfl⟩
    have k24 : ∃ M, ∀ b, b = a → wX6_meet ln (sw_end (gX6_meet ln s f σ)) M 24 [some (.inr (some (6, s))), some (.inr (some (2, f))), none] [] b := by
      by_cases e1 : fr_kd a f = 0
      · refine ⟨30, fun b hb => ?_⟩
        subst hb
        refine And.intro hka (And.intro (fun z => absurd e1 z) (fun _ => ?_))
        show some (Sum.inl 3) = some (Sum.inl (sd_mp ln s f σ).1) ∧ b = (sd_mp ln s f σ).2
        rw [hmp]
        unfold sd_ma
        rw [if_pos e1]
        exact ⟨rfl, rfl⟩
      · by_cases e2 : fr_nu a f = a 6 s 6
        · obtain ⟨M, k69⟩ := k69 e1 e2
          refine ⟨M + 30, fun b hb => sw_ws_wp [69] M 30 _ _ _ _ ?_⟩
          subst hb
          exact And.intro hka (And.intro (fun _ => And.intro hka (And.intro (fun _ => And.intro hka (And.intro (hl.1 14 s) (k69 _ rfl))) (fun z => absurd e2 z))) (fun z => absurd z e1))
        · refine ⟨40, fun b hb => ?_⟩
          subst hb
          refine And.intro hka (And.intro (fun _ => And.intro hka (And.intro (fun z => absurd z e2) (fun _ => And.intro (Or.inr rfl) ?_))) (fun z => absurd z e1))
          show some (Sum.inl 4) = some (Sum.inl (sd_mp ln s f σ).1) ∧ sd_m4 s b = (sd_mp ln s f σ).2
          rw [hmp]
          unfold sd_ma
          rw [if_neg e1, if_neg e2]
          exact ⟨rfl, rfl⟩
    obtain ⟨M, k24⟩ := k24
    refine ⟨M + 30, sw_ws_wp [24] M 30 _ _ _ _ ?_⟩
    exact And.intro ⟨hg.ok hl f, hr⟩ (And.intro (fun _ => And.intro (hg.ok hl f) (And.intro (hc h1) (k24 _ ha.symm))) (fun z => absurd z h1))
set_option maxRecDepth 100000 in
theorem mX6_meet {l : Launch} {ad : sw_A} {V : Nat → Nat → Prop} {ln : sw_A} {ca : Nat → ClassId} {D : va_G} (hG : sw_wf ad V sw_rf ln) : sw_met l ad V sw_rf ln ca D yX6_meet cX6_meet 3 (some .int) { frames := 5, cells := 0, slots := 0, locals := 110 } 2 (fX6_meet ln) := by
  refine sw_meth hG (by decide) (by refine ⟨?_, ?_, ?_, ?_⟩ <;> intro h <;> first | rfl | exact ⟨_, rfl⟩ | exact absurd h (by decide)) (by decide) kX6_meet flX6_in cnX6_in ?_ (sw_foo_h (W := fun Q L σ => ∃ fuel, wX6_meet ln Q fuel 0 L [] σ) (fun a0 a1 σ h => hX6_meet ln a0 a1 σ h))
  intro p e s m args below meth c S hT hnw
  refine List.forall_mem_cons.mpr ⟨sw_cokV S hT hnw (mX2_isSound hG) 242 2 (by decide) ⟨by decide +kernel, by decide +kernel, by decide +kernel, by decide +kernel, by decide +kernel⟩ ⟨rfl, by decide, by decide, by decide +kernel⟩ ⟨rfl, rfl⟩ ⟨by decide, by decide⟩, ?_⟩
  refine List.forall_mem_cons.mpr ⟨sw_cokV S hT hnw (mX6_refuse hG) 246 6 (by decide) ⟨by decide +kernel, by decide +kernel, by decide +kernel, by decide +kernel, by decide +kernel⟩ ⟨rfl, by decide, by decide, by decide +kernel⟩ ⟨rfl, rfl⟩ ⟨by decide, by decide⟩, ?_⟩
  refine List.forall_mem_cons.mpr ⟨sw_cokV S hT hnw (mX2_wanted hG) 249 2 (by decide) ⟨by decide +kernel, by decide +kernel, by decide +kernel, by decide +kernel, by decide +kernel⟩ ⟨rfl, by decide, by decide, by decide +kernel⟩ ⟨rfl, rfl⟩ ⟨by decide, by decide⟩, ?_⟩
  refine List.forall_mem_cons.mpr ⟨sw_cokV S hT hnw (mX6_settleBefore hG) 252 6 (by decide) ⟨by decide +kernel, by decide +kernel, by decide +kernel, by decide +kernel, by decide +kernel⟩ ⟨rfl, by decide, by decide, by decide +kernel⟩ ⟨rfl, rfl⟩ ⟨by decide, by decide⟩, ?_⟩
  refine List.forall_mem_cons.mpr ⟨sw_cokV S hT hnw (mX2_kind hG) 255 2 (by decide) ⟨by decide +kernel, by decide +kernel, by decide +kernel, by decide +kernel, by decide +kernel⟩ ⟨rfl, by decide, by decide, by decide +kernel⟩ ⟨rfl, rfl⟩ ⟨by decide, by decide⟩, ?_⟩
  refine List.forall_mem_cons.mpr ⟨sw_cokV S hT hnw (mX2_number hG) 258 2 (by decide) ⟨by decide +kernel, by decide +kernel, by decide +kernel, by decide +kernel, by decide +kernel⟩ ⟨rfl, by decide, by decide, by decide +kernel⟩ ⟨rfl, rfl⟩ ⟨by decide, by decide⟩, ?_⟩
  refine List.forall_mem_cons.mpr ⟨sw_cokV S hT hnw (mX2_streamNumber hG) 264 2 (by decide) ⟨by decide +kernel, by decide +kernel, by decide +kernel, by decide +kernel, by decide +kernel⟩ ⟨rfl, by decide, by decide, by decide +kernel⟩ ⟨rfl, rfl⟩ ⟨by decide, by decide⟩, ?_⟩
  refine List.forall_mem_cons.mpr ⟨sw_cokV S hT hnw (mX6_flowAt hG) 156 6 (by decide) ⟨by decide +kernel, by decide +kernel, by decide +kernel, by decide +kernel, by decide +kernel⟩ ⟨rfl, by decide, by decide, by decide +kernel⟩ ⟨rfl, rfl⟩ ⟨by decide, by decide⟩, ?_⟩
  refine List.forall_mem_cons.mpr ⟨sw_cokV S hT hnw (mX1_canTake hG) 267 1 (by decide) ⟨by decide +kernel, by decide +kernel, by decide +kernel, by decide +kernel, by decide +kernel⟩ ⟨rfl, by decide, by decide, by decide +kernel⟩ ⟨rfl, rfl⟩ ⟨by decide, by decide⟩, ?_⟩
  refine List.forall_mem_cons.mpr ⟨sw_cokV S hT hnw (mX1_take hG) 271 1 (by decide) ⟨by decide +kernel, by decide +kernel, by decide +kernel, by decide +kernel, by decide +kernel⟩ ⟨rfl, by decide, by decide, by decide +kernel⟩ ⟨rfl, rfl⟩ ⟨by decide, by decide⟩, ?_⟩
  refine List.forall_mem_cons.mpr ⟨sw_cokV S hT hnw (mX4_numberBehind hG) 214 4 (by decide) ⟨by decide +kernel, by decide +kernel, by decide +kernel, by decide +kernel, by decide +kernel⟩ ⟨rfl, by decide, by decide, by decide +kernel⟩ ⟨rfl, rfl⟩ ⟨by decide, by decide⟩, ?_⟩
  exact fun q h => absurd h List.not_mem_nil
def sd_te (ln : sw_A) (s : Nat) (x : Int32) (σ : sw_S) : Int32 := if x = 0 then sd_fr ln s σ else if x = 1 then σ 3 (2 * s) 2 else if x = 2 then σ 6 s 5 else if x = 3 then σ 6 s 6 else if x = 4 then σ 3 (2 * s + 1) 2 else if x = 5 then σ 6 s 7 else if x = 6 then σ 6 s 8 else if x = 7 then bi (σ 6 s 9) else if x = 8 then σ 6 s 11 else if x = 9 then σ 6 s 12 else if x = 10 then σ 6 s 13 else if x = 11 then σ 6 s 14 else -1
def gX6_tell (ln : sw_A) (s : Nat) (x : Int32) (σ : sw_S) : sw_X := (lo ln ∧ fg ln σ ∧ 0 ≤ σ 3 (2 * s) 2, some (.inl (sd_te ln s x σ)), σ)
def fX6_tell (ln : sw_A) : sw_F := sw_foi 6 (gX6_tell ln)
def ctX6_tell (ln : sw_A) : sw_C := [(76, 1, 7, fX6_freeCells ln), (120, 1, 4, fX3_size ln), (286, 1, 0, fX7_bit ln)]
abbrev wX6_tell (ln : sw_A) (Q : Option sw_V → sw_S → Prop) : Nat → Nat → sw_L → List sw_V → sw_S → Prop := sw_wp sw_rf ln (ctX6_tell ln) sX6_tell 1 134 tX6_tell Q
theorem hX6_tell (ln : sw_A) (s : Nat) (x : Int32) (σ : sw_S) (h : (gX6_tell ln s x σ).1) : ∃ fuel, wX6_tell ln (sw_end (gX6_tell ln s x σ)) fuel 0 (sw_ent 2 [.inr (some (6, s)), .inl x]) [] σ := by
  refine ⟨20, And.intro (fun (h0 : x = 0) => And.intro h ⟨sw_ri ?_, rfl⟩) (fun (n0 : ¬ x = 0) => And.intro (fun (h1 : x = 1) => And.intro trivial ⟨sw_ri ?_, rfl⟩) (fun (n1 : ¬ x = 1) => And.intro (fun (h2 : x = 2) => ⟨sw_ri ?_, rfl⟩) (fun (n2 : ¬ x = 2) => And.intro (fun (h3 : x = 3) => ⟨sw_ri ?_, rfl⟩) (fun (n3 : ¬ x = 3) => And.intro (fun (h4 : x = 4) => And.intro trivial ⟨sw_ri ?_, rfl⟩) (fun (n4 : ¬ x = 4) => And.intro (fun (h5 : x = 5) => ⟨sw_ri ?_, rfl⟩) (fun (n5 : ¬ x = 5) => And.intro (fun (h6 : x = 6) => ⟨sw_ri ?_, rfl⟩) (fun (n6 : ¬ x = 6) => And.intro (fun (h7 : x = 7) => And.intro trivial ⟨sw_ri ?_, rfl⟩) (fun (n7 : ¬ x = 7) => And.intro (fun (h8 : x = 8) => ⟨sw_ri ?_, rfl⟩) (fun (n8 : ¬ x = 8) => And.intro (fun (h9 : x = 9) => ⟨sw_ri ?_, rfl⟩) (fun (n9 : ¬ x = 9) => And.intro (fun (h10 : x = 10) => ⟨sw_ri ?_, rfl⟩) (fun (n10 : ¬ x = 10) => And.intro (fun (h11 : x = 11) => ⟨sw_ri ?_, rfl⟩) (fun (n11 : ¬ x = 11) => ⟨sw_ri ?_, rfl⟩))))))))))))⟩
  · unfold sd_te; rw [if_pos h0]; try rfl
  · unfold sd_te; rw [if_neg n0, if_pos h1]; try rfl
  · unfold sd_te; rw [if_neg n0, if_neg n1, if_pos h2]; try rfl
  · unfold sd_te; rw [if_neg n0, if_neg n1, if_neg n2, if_pos h3]; try rfl
  · unfold sd_te; rw [if_neg n0, if_neg n1, if_neg n2, if_neg n3, if_pos h4]; try rfl
  · unfold sd_te; rw [if_neg n0, if_neg n1, if_neg n2, if_neg n3, if_neg n4, if_pos h5]; try rfl
  · unfold sd_te; rw [if_neg n0, if_neg n1, if_neg n2, if_neg n3, if_neg n4, if_neg n5, if_pos h6]; try rfl
  · unfold sd_te; rw [if_neg n0, if_neg n1, if_neg n2, if_neg n3, if_neg n4, if_neg n5, if_neg n6, if_pos h7]; try rfl
  · unfold sd_te; rw [if_neg n0, if_neg n1, if_neg n2, if_neg n3, if_neg n4, if_neg n5, if_neg n6, if_neg n7, if_pos h8]; try rfl
  · unfold sd_te; rw [if_neg n0, if_neg n1, if_neg n2, if_neg n3, if_neg n4, if_neg n5, if_neg n6, if_neg n7, if_neg n8, if_pos h9]; try rfl
  · unfold sd_te; rw [if_neg n0, if_neg n1, if_neg n2, if_neg n3, if_neg n4, if_neg n5, if_neg n6, if_neg n7, if_neg n8, if_neg n9, if_pos h10]; try rfl
  · unfold sd_te; rw [if_neg n0, if_neg n1, if_neg n2, if_neg n3, if_neg n4, if_neg n5, if_neg n6, if_neg n7, if_neg n8, if_neg n9, if_neg n10, if_pos h11]; try rfl
  · unfold sd_te; rw [if_neg n0, if_neg n1, if_neg n2, if_neg n3, if_neg n4, if_neg n5, if_neg n6, if_neg n7, if_neg n8, if_neg n9, if_neg n10, if_neg n11]; try rfl
set_option maxRecDepth 100000 in
theorem mX6_tell {l : Launch} {ad : sw_A} {V : Nat → Nat → Prop} {ln : sw_A} {ca : Nat → ClassId} {D : va_G} (hG : sw_wf ad V sw_rf ln) : sw_met l ad V sw_rf ln ca D yX6_tell cX6_tell 2 (some .int) { frames := 4, cells := 0, slots := 0, locals := 91 } 2 (fX6_tell ln) := by
  refine sw_meth hG (by decide) (by refine ⟨?_, ?_, ?_, ?_⟩ <;> intro h <;> first | rfl | exact ⟨_, rfl⟩ | exact absurd h (by decide)) (by decide) kX6_tell flX6_in cnX6_in ?_ (sw_foi_h (W := fun Q L σ => ∃ fuel, wX6_tell ln Q fuel 0 L [] σ) (fun a0 a1 σ h => hX6_tell ln a0 a1 σ h))
  intro p e s m args below meth c S hT hnw
  refine List.forall_mem_cons.mpr ⟨sw_cokV S hT hnw (mX6_freeCells hG) 76 6 (by decide) ⟨by decide +kernel, by decide +kernel, by decide +kernel, by decide +kernel, by decide +kernel⟩ ⟨rfl, by decide, by decide, by decide +kernel⟩ ⟨rfl, rfl⟩ ⟨by decide, by decide⟩, ?_⟩
  refine List.forall_mem_cons.mpr ⟨sw_cokV S hT hnw (mX3_size hG) 120 3 (by decide) ⟨by decide +kernel, by decide +kernel, by decide +kernel, by decide +kernel, by decide +kernel⟩ ⟨rfl, by decide, by decide, by decide +kernel⟩ ⟨rfl, rfl⟩ ⟨by decide, by decide⟩, ?_⟩
  refine List.forall_mem_cons.mpr ⟨sw_cokN S hT hnw (mX7_bit hG) 286 hnw.2 ⟨by decide +kernel, by decide +kernel, by decide +kernel⟩ ⟨by decide, by decide, by decide +kernel⟩ ⟨rfl, rfl⟩ ⟨by decide, by decide⟩, ?_⟩
  exact fun q h => absurd h List.not_mem_nil
