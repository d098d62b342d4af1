/-! StreamWires: drain and deliver -/
theorem wi_sa_2 {i : Int32} {c s : Nat} (h : wi_sa i = some (c, s)) : s < 2 := by
  unfold wi_sa at h
  split at h
  · cases h; decide
  · split at h
    · cases h; decide
    · cases h
def wi_dl (ln : sw_A) (s : Nat) : Nat → Int32 → sw_S → wi_P
  | 0, x, σ => (x, σ)
  | d + 1, x, σ => if (sd_np ln s σ).1 = 0 then (x, (sd_np ln s σ).2) else wi_dl ln s d (x + 1) (sd_np ln s σ).2
def wi_dp (ln : sw_A) (s : Nat) : Nat → sw_S → Prop
  | 0, _ => True
  | d + 1, σ => (gX6_sendNext ln s σ).1 ∧ (¬ (sd_np ln s σ).1 = 0 → wi_dp ln s d (sd_np ln s σ).2)
def wi_dn (ln : sw_A) (i n : Int32) (σ : sw_S) : wi_P := sd_om (-1, σ) (fun q => if n < 0 then (-1, σ) else if n ≤ 1000 then wi_dl ln q.2 n.toNatClampNeg 0 σ else (-1, σ)) (wi_sa i)
def gX7_drain (ln : sw_A) (x : Nat) (i n : Int32) (σ : sw_S) : sw_X := (∀ s, s < 2 → wi_dp ln s n.toNatClampNeg σ, some (.inl (wi_dn ln i n σ).1), (wi_dn ln i n σ).2)
def fX7_drain (ln : sw_A) : sw_F := sw_foii 7 (gX7_drain ln)
def ctX7_drain (ln : sw_A) : sw_C := [(43, 2, 8, fX7_sideAt ln), (58, 1, 7, fX6_sendNext ln)]
abbrev wX7_drain (ln : sw_A) (Q : Option sw_V → sw_S → Prop) : Nat → Nat → sw_L → List sw_V → sw_S → Prop := sw_wp sw_rf ln (ctX7_drain ln) sX7_drain 1 47 tX7_drain Q
theorem hX7_drain_l (ln : sw_A) (x s n : Nat) (i : Int32) (X : sw_X) (hn : n < 2 ^ 31) : ∀ (d j : Nat) (σ : sw_S), j + d = n → wi_dp ln s d σ → X.2 = (some (.inl (wi_dl ln s d (nI j) σ).1), (wi_dl ln s d (nI j) σ).2) → ∃ fuel, wX7_drain ln (sw_end X) fuel 26 [some (.inr (some (7, x))), some (.inl i), some (.inl (nI n)), some (.inr (some (6, s))), some (.inl (nI j))] [] σ := by
  intro d
  induction d with
  | zero =>
    intro j σ hj hd hX
    have hj : j = n := by omega
    subst hj
    refine ⟨20, And.intro (fun _ => ?_) (fun (h : ¬ nI j ≤ nI j) => absurd (Int32.le_refl _) h)⟩
    show some _ = X.2.1 ∧ σ = X.2.2
    rw [hX]
    exact ⟨rfl, rfl⟩
  | succ d ih =>
    intro j σ hj hd hX
    by_cases h1 : (sd_np ln s σ).1 = 0
    · refine ⟨20, And.intro (fun (h : nI n ≤ nI j) => absurd h (nI_ge (a := j) (b := n) (by omega) hn)) (fun _ => And.intro hd.1 (And.intro (fun _ => ?_) (fun z => absurd h1 z)))⟩
      show some _ = X.2.1 ∧ (sd_np ln s σ).2 = X.2.2
      rw [hX, show wi_dl ln s (d + 1) (nI j) σ = _ from if_pos h1]
      exact ⟨rfl, rfl⟩
    · obtain ⟨f, hf⟩ := ih (j + 1) (sd_np ln s σ).2 (by omega) (hd.2 h1) (by rw [hX, show wi_dl ln s (d + 1) (nI j) σ = _ from if_neg h1, nI_1])
      rw [← nI_1] at hf
      refine ⟨f + 20, sw_ws_wp [26] f 20 _ _ _ _ ?_⟩
      exact And.intro (fun (h : nI n ≤ nI j) => absurd h (nI_ge (a := j) (b := n) (by omega) hn)) (fun _ => And.intro hd.1 (And.intro (fun z => absurd z h1) (fun _ => hf)))
theorem hX7_drain (ln : sw_A) (x : Nat) (i n : Int32) (σ : sw_S) (h : (gX7_drain ln x i n σ).1) : ∃ fuel, wX7_drain ln (sw_end (gX7_drain ln x i n σ)) fuel 0 (sw_ent 5 [.inr (some (7, x)), .inl i, .inl n]) [] σ := by
  have key : ∃ M, ∀ r, r = wi_sa i → wX7_drain ln (sw_end (gX7_drain ln x i n σ)) M 5 [some (.inr (some (7, x))), some (.inl i), some (.inl n), none, none] [.inr r] σ := by
    obtain ⟨r0, hr0⟩ : ∃ r0, r0 = wi_sa i := ⟨_, rfl⟩
    have hp : wi_dn ln i n σ = sd_om (-1, σ) (fun q => if n < 0 then (-1, σ) else if n ≤ 1000 then wi_dl ln q.2 n.toNatClampNeg 0 σ else (-1, σ)) r0 := by unfold wi_dn; rw [hr0]
    cases r0 with
    | none =>
      refine ⟨20, fun r hr => ?_⟩
      have hr : r = none := hr.trans hr0.symm
      subst hr
      exact sw_pe (by rw [hp]; rfl)
    | some q =>
      obtain ⟨q1, q2⟩ := q
      have e1 : q1 = 6 := wi_sa_6 hr0.symm
      subst e1
      replace hp : wi_dn ln i n σ = if n < 0 then (-1, σ) else if n ≤ 1000 then wi_dl ln q2 n.toNatClampNeg 0 σ else (-1, σ) := hp
      by_cases a1 : n < 0
      · refine ⟨20, fun r hr => ?_⟩
        have hr : r = some (6, q2) := hr.trans hr0.symm
        subst hr
        exact And.intro (fun _ => sw_pe (by rw [hp, if_pos a1])) (fun z => absurd a1 z)
      · by_cases a2 : n ≤ 1000
        · obtain ⟨m, hm, rfl⟩ := nI_of a1
          rw [if_neg a1, if_pos a2, nI_clamp hm] at hp
          have h0 := h q2 (wi_sa_2 hr0.symm)
          rw [nI_clamp hm] at h0
          obtain ⟨f, hf⟩ := hX7_drain_l ln x q2 m i (gX7_drain ln x i (nI m) σ) hm m 0 σ (by omega) h0 (by
            show (some (Sum.inl (wi_dn ln i (nI m) σ).1), (wi_dn ln i (nI m) σ).2) = _
            rw [hp, nI_0])
          refine ⟨f + 20, fun r hr => sw_ws_wp [26] f 20 _ _ _ _ ?_⟩
          have hr : r = some (6, q2) := hr.trans hr0.symm
          subst hr
          exact And.intro (fun z => absurd z a1) (fun _ => And.intro (fun _ => hf) (fun z => absurd a2 z))
        · refine ⟨20, fun r hr => ?_⟩
          have hr : r = some (6, q2) := hr.trans hr0.symm
          subst hr
          exact And.intro (fun z => absurd z a1) (fun _ => And.intro (fun z => absurd z a2) (fun _ => sw_pe (by rw [hp, if_neg a1, if_neg a2])))
  obtain ⟨M, key⟩ := key
  exact ⟨M + 10, sw_ws_wp [5] M 10 _ _ _ _ (And.intro trivial (key _ rfl))⟩
set_option maxRecDepth 100000 in
theorem mX7_drain {l : Launch} {ad : sw_A} {V : Nat → Nat → Prop} {ln : sw_A} {ca : Nat → ClassId} {D : va_G} (hG : sw_wf ad V sw_rf ln) : sw_met l ad V sw_rf ln ca D yX7_drain cX7_drain 5 (some .int) { frames := 7, cells := 0, slots := 0, locals := 149 } 3 (fX7_drain ln) := by
  refine sw_meth hG (by decide) (by refine ⟨?_, ?_, ?_, ?_⟩ <;> intro h <;> first | rfl | exact ⟨_, rfl⟩ | exact absurd h (by decide)) (by decide) kX7_drain flX7_in cnX7_in ?_ (sw_foii_h (W := fun Q L σ => ∃ fuel, wX7_drain ln Q fuel 0 L [] σ) (fun a0 a1 a2 σ h => hX7_drain ln a0 a1 a2 σ h))
  intro p e s m args below meth c S hT hnw
  refine List.forall_mem_cons.mpr ⟨sw_cokV S hT hnw (mX7_sideAt hG) 43 7 (by decide) ⟨by decide +kernel, by decide +kernel, by decide +kernel, by decide +kernel, by decide +kernel⟩ ⟨rfl, by decide, by decide, by decide +kernel⟩ ⟨rfl, rfl⟩ ⟨by decide, by decide⟩, ?_⟩
  refine List.forall_mem_cons.mpr ⟨sw_cokV S hT hnw (mX6_sendNext hG) 58 6 (by decide) ⟨by decide +kernel, by decide +kernel, by decide +kernel, by decide +kernel, by decide +kernel⟩ ⟨rfl, by decide, by decide, by decide +kernel⟩ ⟨rfl, rfl⟩ ⟨by decide, by decide⟩, ?_⟩
  exact fun q h => absurd h List.not_mem_nil
def wi_ef (ln : sw_A) (s u f : Nat) (σ : sw_S) : wi_P := ((sd_mp ln u f σ).1, (gX3_dropFirst ln (2 * s + 1) (sd_mp ln u f σ).2).2.2)
def wi_em (ln : sw_A) (σ : sw_S) : Option (Nat × Nat) → Option (Nat × Nat) → wi_P
  | some p, some q => sd_om (0, σ) (fun f => wi_ef ln p.2 q.2 f.2 σ) (rg_fa ln (2 * p.2 + 1) 0 σ)
  | _, _ => (-1, σ)
def wi_de (ln : sw_A) (i : Int32) (σ : sw_S) : wi_P := wi_em ln σ (wi_sa i) (wi_sa (1 - i))
def gX7_deliver (ln : sw_A) (x : Nat) (i : Int32) (σ : sw_S) : sw_X := (lo ln ∧ ∀ s u f, wi_sa i = some (6, s) → wi_sa (1 - i) = some (6, u) → rg_fa ln (2 * s + 1) 0 σ = some (2, f) → (gX6_meet ln u f σ).1, some (.inl (wi_de ln i σ).1), (wi_de ln i σ).2)
def fX7_deliver (ln : sw_A) : sw_F := sw_foi 7 (gX7_deliver ln)
def ctX7_deliver (ln : sw_A) : sw_C := [(43, 2, 8, fX7_sideAt ln), (66, 2, 4, fX3_frameAt ln), (72, 2, 7, fX6_meet ln), (76, 1, 4, fX3_dropFirst ln)]
abbrev wX7_deliver (ln : sw_A) (Q : Option sw_V → sw_S → Prop) : Nat → Nat → sw_L → List sw_V → sw_S → Prop := sw_wp sw_rf ln (ctX7_deliver ln) sX7_deliver 1 59 tX7_deliver Q
theorem hX7_deliver (ln : sw_A) (x : Nat) (i : Int32) (σ : sw_S) (h : (gX7_deliver ln x i σ).1) : ∃ fuel, wX7_deliver ln (sw_end (gX7_deliver ln x i σ)) fuel 0 (sw_ent 6 [.inr (some (7, x)), .inl i]) [] σ := by
  obtain ⟨hl, hm⟩ := h
  have k13 : ∃ M, ∀ r1 r2, r1 = wi_sa i → r2 = wi_sa (1 - i) → wX7_deliver ln (sw_end (gX7_deliver ln x i σ)) M 13 [some (.inr (some (7, x))), some (.inl i), some (.inr r1), none, none, none] [.inr r2] σ := by
    obtain ⟨s1, hs1⟩ : ∃ s1, s1 = wi_sa i := ⟨_, rfl⟩
    obtain ⟨s2, hs2⟩ : ∃ s2, s2 = wi_sa (1 - i) := ⟨_, rfl⟩
    have hp : wi_de ln i σ = wi_em ln σ s1 s2 := by unfold wi_de; rw [hs1, hs2]
    cases s1 with
    | none =>
      refine ⟨20, fun r1 r2 h1 h2 => ?_⟩
      have h1 : r1 = none := h1.trans hs1.symm
      subst h1
      exact sw_pe (by rw [hp]; rfl)
    | some p =>
      obtain ⟨p1, p2⟩ := p
      have e1 : p1 = 6 := wi_sa_6 hs1.symm
      subst e1
      cases s2 with
      | none =>
        refine ⟨20, fun r1 r2 h1 h2 => ?_⟩
        have h1 : r1 = some (6, p2) := h1.trans hs1.symm
        have h2 : r2 = none := h2.trans hs2.symm
        subst h1
        subst h2
        exact sw_pe (by rw [hp]; rfl)
      | some q =>
        obtain ⟨q1, q2⟩ := q
        have e2 : q1 = 6 := wi_sa_6 hs2.symm
        subst e2
        have k32 : ∃ M, ∀ r, r = rg_fa ln (2 * p2 + 1) 0 σ → wX7_deliver ln (sw_end (gX7_deliver ln x i σ)) M 32 [some (.inr (some (7, x))), some (.inl i), some (.inr (some (6, p2))), some (.inr (some (6, q2))), none, none] [.inr r] σ := by
          refine ⟨30, fun r hr => ?_⟩
          have hp2 : wi_de ln i σ = sd_om (0, σ) (fun f => wi_ef ln p2 q2 f.2 σ) r := by rw [hp, hr]; rfl
          cases r with
          | none => exact sw_pe (by rw [hp2]; rfl)
          | some f =>
            obtain ⟨f1, f2⟩ := f
            have e3 : f1 = 2 := rg_fa_2 hr.symm
            subst e3
            exact And.intro (hm p2 q2 f2 hs1.symm hs2.symm hr.symm) (And.intro trivial (sw_pe (by rw [hp2]; rfl)))
        obtain ⟨M, k32⟩ := k32
        refine ⟨M + 20, fun r1 r2 h1 h2 => sw_ws_wp [32] M 20 _ _ _ _ ?_⟩
        have h1 : r1 = some (6, p2) := h1.trans hs1.symm
        have h2 : r2 = some (6, q2) := h2.trans hs2.symm
        subst h1
        subst h2
        exact And.intro (hl.1 13 _) (k32 _ rfl)
  obtain ⟨M, k13⟩ := k13
  exact ⟨M + 20, sw_ws_wp [13] M 20 _ _ _ _ (And.intro trivial (And.intro trivial (k13 _ _ rfl rfl)))⟩
set_option maxRecDepth 100000 in
theorem mX7_deliver {l : Launch} {ad : sw_A} {V : Nat → Nat → Prop} {ln : sw_A} {ca : Nat → ClassId} {D : va_G} (hG : sw_wf ad V sw_rf ln) : sw_met l ad V sw_rf ln ca D yX7_deliver cX7_deliver 6 (some .int) { frames := 6, cells := 0, slots := 0, locals := 132 } 2 (fX7_deliver ln) := by
  refine sw_meth hG (by decide) (by refine ⟨?_, ?_, ?_, ?_⟩ <;> intro h <;> first | rfl | exact ⟨_, rfl⟩ | exact absurd h (by decide)) (by decide) kX7_deliver flX7_in cnX7_in ?_ (sw_foi_h (W := fun Q L σ => ∃ fuel, wX7_deliver ln Q fuel 0 L [] σ) (fun a0 a1 σ h => hX7_deliver ln a0 a1 σ h))
  intro p e s m args below meth c S hT hnw
  refine List.forall_mem_cons.mpr ⟨sw_cokV S hT hnw (mX7_sideAt hG) 43 7 (by decide) ⟨by decide +kernel, by decide +kernel, by decide +kernel, by decide +kernel, by decide +kernel⟩ ⟨rfl, by decide, by decide, by decide +kernel⟩ ⟨rfl, rfl⟩ ⟨by decide, by decide⟩, ?_⟩
  refine List.forall_mem_cons.mpr ⟨sw_cokV S hT hnw (mX3_frameAt hG) 66 3 (by decide) ⟨by decide +kernel, by decide +kernel, by decide +kernel, by decide +kernel, by decide +kernel⟩ ⟨rfl, by decide, by decide, by decide +kernel⟩ ⟨rfl, rfl⟩ ⟨by decide, by decide⟩, ?_⟩
  refine List.forall_mem_cons.mpr ⟨sw_cokV S hT hnw (mX6_meet hG) 72 6 (by decide) ⟨by decide +kernel, by decide +kernel, by decide +kernel, by decide +kernel, by decide +kernel⟩ ⟨rfl, by decide, by decide, by decide +kernel⟩ ⟨rfl, rfl⟩ ⟨by decide, by decide⟩, ?_⟩
  refine List.forall_mem_cons.mpr ⟨sw_cokV S hT hnw (mX3_dropFirst hG) 76 3 (by decide) ⟨by decide +kernel, by decide +kernel, by decide +kernel, by decide +kernel, by decide +kernel⟩ ⟨rfl, by decide, by decide, by decide +kernel⟩ ⟨rfl, rfl⟩ ⟨by decide, by decide⟩, ?_⟩
  exact fun q h => absurd h List.not_mem_nil
