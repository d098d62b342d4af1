/-! The reference: timeout, deliver -/
def mt_1 (k : Nat) (q : Int32) (σ : sw_S) : sw_S := sw_up σ 8 k 39 (mi σ 23 q - 1)
/-- the frame's words come out of the row a, from place p on -/
def mt_c (a : Nat) (p : Int32) : Nat → sw_S → sw_S
  | 0, σ => σ
  | n + 1, σ => mis (mt_c a p n σ) 38 (nI n) (mi (mt_c a p n σ) a (p + nI n))
theorem mt_c_k (a : Nat) (p : Int32) {c k' : Nat} (h : ¬ (c = 15 ∧ k' = 38)) (j' : Nat) : ∀ (n : Nat) (σ : sw_S), mt_c a p n σ c k' j' = σ c k' j'
  | 0, _ => rfl
  | n + 1, σ => (if_neg (fun z => h ⟨z.1, z.2.1⟩)).trans (mt_c_k a p h j' n σ)
def mt_2 (i : Int32) (σ : sw_S) : sw_S := mis σ 38 0 (mi σ 38 0 &&& (-16711681 : Int32) ||| mi σ 29 i <<< (16 &&& 31))
def mt_a (k : Nat) (i q : Int32) (σ : sw_S) : sw_S := mt_2 i (mt_c 24 (19 * q) (mt_1 k q σ 8 k 39).toNatClampNeg (mt_1 k q σ))
def mt_s (k : Nat) (i q : Int32) (σ : sw_S) : sw_S := mo_wi k i (mo_fs k (mt_a k i q σ))
def mt_l (k : Nat) (i : Int32) : Nat → Nat → sw_S → wi_P
  | 0, n, σ => (nI n, σ)
  | d + 1, n, σ => if σ 8 k 4 ≤ mi σ 25 i then (nI n, σ) else mt_l k i d (n + 1) (mt_s k i (15 * i + nI n) σ)
def mt_p (k : Nat) (i : Int32) : Nat → Nat → sw_S → Prop
  | 0, _, _ => True
  | d + 1, n, σ => ¬ σ 8 k 4 ≤ mi σ 25 i → (∃ z : Nat, z ≤ 18 ∧ mi σ 23 (15 * i + nI n) - 1 = nI z) ∧ mo_wp k i (mo_fs k (mt_a k i (15 * i + nI n) σ)) ∧ mt_p k i d (n + 1) (mt_s k i (15 * i + nI n) σ)
def mt (k : Nat) (i : Int32) (σ : sw_S) : wi_P := if mo_is i = 0 then (-1, σ) else mt_l k i (mi σ 22 i).toNatClampNeg 0 σ
def gX8_timeout (ln : sw_A) (k : Nat) (i : Int32) (σ : sw_S) : sw_X := (mo ln ∧ (¬ mo_is i = 0 → ∃ s m : Nat, s < 2 ∧ m ≤ 15 ∧ i = nI s ∧ mi σ 22 i = nI m ∧ mt_p k i m 0 σ), some (.inl (mt k i σ).1), (mt k i σ).2)
def fX8_timeout (ln : sw_A) : sw_F := sw_foi 8 (gX8_timeout ln)
def ctX8_timeout (ln : sw_A) : sw_C := [(133, 1, 0, fX8_isSide ln), (157, 2, 9, fX8_sumOf ln), (160, 2, 9, fX8_add ln), (163, 2, 9, fX8_ontoWire ln)]
abbrev wX8_timeout (ln : sw_A) (Q : Option sw_V → sw_S → Prop) : Nat → Nat → sw_L → List sw_V → sw_S → Prop := sw_wp sw_rf ln (ctX8_timeout ln) sX8_timeout 1 139 tX8_timeout Q
theorem mo_wi_k (k : Nat) (i : Int32) (σ : sw_S) {j' : Nat} (x : Nat) (h : j' ≠ 25 ∧ j' ≠ 26 ∧ j' ≠ 27 ∧ j' ≠ 33) : mo_wi k i σ 15 j' x = σ 15 j' x := by
  unfold mo_wi mo_w3 mo_w2 mo_w1
  exact (if_neg (fun z => absurd z.1 (by decide))).trans ((if_neg (fun z => h.2.2.2 z.2.1)).trans ((if_neg (fun z => h.1 z.2.1)).trans ((mo_cp_k 27 _ (fun z => h.2.2.1 z.2) x _ _).trans (if_neg (fun z => h.2.1 z.2.1)))))
theorem mo_fs_k (k : Nat) (σ : sw_S) {j' : Nat} (x : Nat) (h : j' ≠ 38) : mo_fs k σ 15 j' x = σ 15 j' x := by
  unfold mo_fs mo_ad
  exact (if_neg (fun z => absurd z.1 (by decide))).trans (if_neg (fun z => h z.2.1))
theorem mt_s_22 (k : Nat) (i q : Int32) (σ : sw_S) (x : Nat) : mt_s k i q σ 15 22 x = σ 15 22 x := by
  unfold mt_s
  rw [mo_wi_k k i _ x ⟨by decide, by decide, by decide, by decide⟩, mo_fs_k k _ x (by decide)]
  unfold mt_a mt_2
  rw [show mis (mt_c 24 (19 * q) (mt_1 k q σ 8 k 39).toNatClampNeg (mt_1 k q σ)) 38 0 _ 15 22 x = mt_c 24 (19 * q) (mt_1 k q σ 8 k 39).toNatClampNeg (mt_1 k q σ) 15 22 x from if_neg (fun z => absurd z.2.1 (by decide)), mt_c_k 24 _ (by decide)]
  exact sw_upk _ (by decide)
theorem hX8_timeout_i (ln : sw_A) (k q z : Nat) (i n : Int32) (σ : sw_S) (X : sw_X) (hm : mo ln) (hq : q < 30) (hz18 : z ≤ 18) (hz : σ 8 k 39 = nI z) (M : Nat) (hM : wX8_timeout ln (sw_end X) M 90 [some (.inr (some (8, k))), some (.inl i), some (.inl n), some (.inl (nI q)), some (.inl (nI z))] [] (mt_c 24 (19 * nI q) z σ)) : ∀ (d j : Nat), j + d = z → ∃ fuel, wX8_timeout ln (sw_end X) fuel 56 [some (.inr (some (8, k))), some (.inl i), some (.inl n), some (.inl (nI q)), some (.inl (nI j))] [] (mt_c 24 (19 * nI q) j σ) := by
  intro d
  induction d with
  | zero =>
    intro j hj
    have hj : j = z := by omega
    subst hj
    have hl : mt_c 24 (19 * nI q) j σ 8 k 39 = nI j := (mt_c_k 24 _ (fun z => absurd z.1 (by decide)) 39 j σ).trans hz
    refine ⟨M + 20, sw_ws_wp [90] M 20 _ _ _ _ ?_⟩
    exact And.intro (fun _ => hM) (fun (h : ¬ mt_c 24 (19 * nI q) j σ 8 k 39 ≤ nI j) => absurd (by rw [hl]; exact Int32.le_refl _) h)
  | succ d ih =>
    intro j hj
    have hl : mt_c 24 (19 * nI q) j σ 8 k 39 = nI z := (mt_c_k 24 _ (fun z => absurd z.1 (by decide)) 39 j σ).trans hz
    have v1 := hm.i (j := 38) (n := 19) rfl (vp_in_nI (n := j) (by omega) (by omega))
    have v2 : vp_in (19 * nI q + nI j) 570 := by
      rw [mo_19]
      exact vp_in_nI (by omega) (by decide)
    obtain ⟨f, hf⟩ := ih (j + 1) (by omega)
    rw [← nI_1] at hf
    refine ⟨f + 40, sw_ws_wp [56] f 40 _ _ _ _ ?_⟩
    exact And.intro (fun (h : mt_c 24 (19 * nI q) j σ 8 k 39 ≤ nI j) => absurd (by rw [← hl]; exact h) (nI_ge (a := j) (b := z) (by omega) (by omega))) (fun _ => And.intro (hm.i (j := 24) rfl v2) (And.intro v1 hf))
theorem hX8_timeout_o (ln : sw_A) (k s m : Nat) (X : sw_X) (hm : mo ln) (hs : s < 2) (hm15 : m ≤ 15) : ∀ (d n : Nat) (σ : sw_S), n + d = m → mi σ 22 (nI s) = nI m → mt_p k (nI s) d n σ → X.2 = (some (.inl (mt_l k (nI s) d n σ).1), (mt_l k (nI s) d n σ).2) → ∃ fuel, ∀ v3 v4, wX8_timeout ln (sw_end X) fuel 11 [some (.inr (some (8, k))), some (.inl (nI s)), some (.inl (nI n)), v3, v4] [] σ := by
  have hi : vp_in (nI s) 2 := vp_in_nI hs (by decide)
  have v22 := hm.i (j := 22) rfl hi
  have v25 := hm.i (j := 25) rfl hi
  have v29 := hm.i (j := 29) rfl hi
  have w0 := hm.i (j := 38) rfl vp_0_19
  intro d
  induction d with
  | zero =>
    intro n σ hn h22 hp hX
    have hn : n = m := by omega
    subst hn
    refine ⟨20, fun v3 v4 => And.intro v22 (And.intro (fun _ => ?_) (fun (h : ¬ mi σ 22 (nI s) ≤ nI n) => absurd (by rw [h22]; exact Int32.le_refl _) h))⟩
    show some _ = X.2.1 ∧ σ = X.2.2
    rw [hX]
    exact ⟨rfl, rfl⟩
  | succ d ih =>
    intro n σ hn h22 hp hX
    have hlt : ¬ mi σ 22 (nI s) ≤ nI n := by rw [h22]; exact nI_ge (by omega) (by omega)
    by_cases h1 : σ 8 k 4 ≤ mi σ 25 (nI s)
    · refine ⟨20, fun v3 v4 => And.intro v22 (And.intro (fun h => absurd h hlt) (fun _ => And.intro v25 (And.intro (fun _ => ?_) (fun z => absurd h1 z))))⟩
      show some _ = X.2.1 ∧ σ = X.2.2
      rw [hX, show mt_l k (nI s) (d + 1) n σ = (nI n, σ) from if_pos h1]
      exact ⟨rfl, rfl⟩
    · obtain ⟨⟨z, hz, hze⟩, hwp, hp2⟩ := hp h1
      have eq : (15 : Int32) * nI s + nI n = nI (15 * s + n) := by rw [show (15 : Int32) * nI s = nI (15 * s) from pk_mul 15 s, nI_add]
      have hl : mt_l k (nI s) (d + 1) n σ = mt_l k (nI s) d (n + 1) (mt_s k (nI s) (15 * nI s + nI n) σ) := if_neg h1
      obtain ⟨f, hf⟩ := ih (n + 1) (mt_s k (nI s) (15 * nI s + nI n) σ) (by omega) (by
        show mt_s k (nI s) (15 * nI s + nI n) σ 15 22 _ = _
        rw [mt_s_22]
        exact h22) hp2 (by rw [hX, hl])
      rw [← nI_1] at hf
      have vq : vp_in (15 * nI s + nI n) 30 := by rw [eq]; exact vp_in_nI (by omega) (by decide)
      have e39 : mt_1 k (15 * nI s + nI n) σ 8 k 39 = nI z := (sw_upe _ _ _ _ _).trans hze
      have ea : mt_a k (nI s) (15 * nI s + nI n) σ = mt_2 (nI s) (mt_c 24 (19 * (15 * nI s + nI n)) z (mt_1 k (15 * nI s + nI n) σ)) := by
        unfold mt_a
        rw [e39, nI_clamp (by omega)]
      have ea39 : mt_a k (nI s) (15 * nI s + nI n) σ 8 k 39 = nI z := by
        rw [ea]
        exact (sw_upk _ (by decide)).trans ((mt_c_k 24 _ (fun z => absurd z.1 (by decide)) 39 z _).trans e39)
      have sp : mo ln ∧ (0 : Int32) ≤ mt_a k (nI s) (15 * nI s + nI n) σ 8 k 39 ∧ mt_a k (nI s) (15 * nI s + nI n) σ 8 k 39 ≤ 19 := by
        refine ⟨hm, ?_, ?_⟩
        · rw [ea39, ← nI_0]; exact nI_le (by omega) (by omega)
        · rw [ea39]; exact (nI_leI (by omega) (b := 19) (by decide)).mpr (by omega)
      have sa : mo ln ∧ vp_in (mt_a k (nI s) (15 * nI s + nI n) σ 8 k 39) 19 := ⟨hm, by rw [ea39]; exact vp_in_nI (by omega) (by decide)⟩
      have sw : mo ln ∧ mo_wp k (nI s) (mo_fs k (mt_a k (nI s) (15 * nI s + nI n) σ)) := ⟨hm, hwp⟩
      have k115 : ∃ M, ∀ v3 v4 b, b = mt_a k (nI s) (15 * nI s + nI n) σ → wX8_timeout ln (sw_end X) M 115 [some (.inr (some (8, k))), some (.inl (nI s)), some (.inl (nI n)), v3, v4] [] b := by
        refine ⟨f + 40, fun v3 v4 b hb => sw_ws_wp [11] f 40 _ _ _ _ ?_⟩
        subst hb
        exact And.intro sp (And.intro sa (And.intro sw (hf v3 v4)))
      obtain ⟨M, k115⟩ := k115
      have k90 : ∃ M, ∀ v3, wX8_timeout ln (sw_end X) M 90 [some (.inr (some (8, k))), some (.inl (nI s)), some (.inl (nI n)), v3, some (.inl (nI z))] [] (mt_c 24 (19 * (15 * nI s + nI n)) z (mt_1 k (15 * nI s + nI n) σ)) := by
        refine ⟨M + 40, fun v3 => sw_ws_wp [115] M 40 _ _ _ _ ?_⟩
        exact And.intro w0 (And.intro v29 (And.intro w0 (k115 _ _ _ ea.symm)))
      obtain ⟨M2, k90⟩ := k90
      have k90 := k90 (some (.inl (nI (15 * s + n))))
      rw [eq] at k90 e39
      obtain ⟨g, hg⟩ := hX8_timeout_i ln k (15 * s + n) z (nI s) (nI n) (mt_1 k (nI (15 * s + n)) σ) X hm (by omega) hz e39 M2 k90 z 0 (by omega)
      rw [← eq, nI_0] at hg
      refine ⟨g + 60, fun v3 v4 => sw_ws_wp [56] g 60 _ _ _ _ ?_⟩
      exact And.intro v22 (And.intro (fun h => absurd h hlt) (fun _ => And.intro v25 (And.intro (fun z => absurd z h1) (fun _ => And.intro (hm.i (j := 23) rfl vq) hg))))
theorem hX8_timeout (ln : sw_A) (k : Nat) (i : Int32) (σ : sw_S) (h : (gX8_timeout ln k i σ).1) : ∃ fuel, wX8_timeout ln (sw_end (gX8_timeout ln k i σ)) fuel 0 (sw_ent 5 [.inr (some (8, k)), .inl i]) [] σ := by
  obtain ⟨hm, hp⟩ := h
  by_cases h1 : mo_is i = 0
  · exact ⟨20, And.intro trivial (And.intro (fun z => absurd h1 z) (fun _ => sw_pe (if_pos h1)))⟩
  · obtain ⟨s, m, hs, hm15, rfl, h22, hp⟩ := hp h1
    obtain ⟨f, hf⟩ := hX8_timeout_o ln k s m (gX8_timeout ln k (nI s) σ) hm hs hm15 m 0 σ (by omega) h22 hp (by
      show (some (Sum.inl (mt k (nI s) σ).1), (mt k (nI s) σ).2) = _
      unfold mt
      rw [if_neg h1, h22, nI_clamp (by omega)])
    have hf := hf none none
    rw [nI_0] at hf
    refine ⟨f + 20, sw_ws_wp [11] f 20 _ _ _ _ ?_⟩
    exact And.intro trivial (And.intro (fun _ => hf) (fun z => absurd z h1))
set_option maxRecDepth 100000 in
theorem mX8_timeout {l : Launch} {ad : sw_A} {V : Nat → Nat → Prop} {ln : sw_A} {ca : Nat → ClassId} {D : va_G} (hG : sw_wf ad V sw_rf ln) : sw_met l ad V sw_rf ln ca D yX8_timeout cX8_timeout 5 (some .int) { frames := 1, cells := 0, slots := 0, locals := 24 } 2 (fX8_timeout ln) := by
  refine sw_meth hG (by decide) (by refine ⟨?_, ?_, ?_, ?_⟩ <;> intro h <;> first | rfl | exact ⟨_, rfl⟩ | exact absurd h (by decide)) (by decide) kX8_timeout flX8_in cnX8_in ?_ (sw_foi_h (W := fun Q L σ => ∃ fuel, wX8_timeout ln Q fuel 0 L [] σ) (fun a0 a1 σ h => hX8_timeout ln a0 a1 σ h))
  intro p e s m args below meth c S hT hnw
  refine List.forall_mem_cons.mpr ⟨sw_cokS S hT hnw (mX8_isSide hG) 133 ⟨by decide +kernel, by decide +kernel, by decide +kernel, by decide +kernel⟩ ⟨rfl, by decide, by decide, by decide +kernel⟩ ⟨rfl, rfl⟩ ⟨by decide, by decide⟩, ?_⟩
  refine List.forall_mem_cons.mpr ⟨sw_cokV S hT hnw (mX8_sumOf hG) 157 8 (by decide) ⟨by decide +kernel, by decide +kernel, by decide +kernel, by decide +kernel, by decide +kernel⟩ ⟨rfl, by decide, by decide, by decide +kernel⟩ ⟨rfl, rfl⟩ ⟨by decide, by decide⟩, ?_⟩
  refine List.forall_mem_cons.mpr ⟨sw_cokV S hT hnw (mX8_add hG) 160 8 (by decide) ⟨by decide +kernel, by decide +kernel, by decide +kernel, by decide +kernel, by decide +kernel⟩ ⟨rfl, by decide, by decide, by decide +kernel⟩ ⟨rfl, rfl⟩ ⟨by decide, by decide⟩, ?_⟩
  refine List.forall_mem_cons.mpr ⟨sw_cokV S hT hnw (mX8_ontoWire hG) 163 8 (by decide) ⟨by decide +kernel, by decide +kernel, by decide +kernel, by decide +kernel, by decide +kernel⟩ ⟨rfl, by decide, by decide, by decide +kernel⟩ ⟨rfl, rfl⟩ ⟨by decide, by decide⟩, ?_⟩
  exact fun q h => absurd h List.not_mem_nil
