/-! The reference: confirm, isFrame -/
def mo_cn (k : Nat) (i x : Int32) (σ : sw_S) : Int32 := sw_rem (x + σ 8 k 2 + 1 - mo_ol k i σ) (σ 8 k 2 + 1)
def mo_c1 (k : Nat) (i x : Int32) (σ : sw_S) : sw_S := mis σ 22 i (mi σ 22 i - mo_cn k i x σ)
def mo_cf (k : Nat) (i x : Int32) (σ : sw_S) : sw_S := if mo_cn k i x σ ≤ mi σ 22 i then mo_dm 23 24 (15 * i.toNatClampNeg) (mo_cn k i x σ) (mi σ 22 i - mo_cn k i x σ).toNatClampNeg (mo_c1 k i x σ) else σ
def mo_cfp (k : Nat) (i x : Int32) (σ : sw_S) : Prop := ¬ σ 8 k 2 + 1 = 0 ∧ ∃ s : Nat, s < 2 ∧ i = nI s ∧ (mo_cn k i x σ ≤ mi σ 22 i → ∃ c r : Nat, c + r ≤ 15 ∧ mo_cn k i x σ = nI c ∧ mi σ 22 i - mo_cn k i x σ = nI r)
def gX8_confirm (ln : sw_A) (k : Nat) (i x : Int32) (σ : sw_S) : sw_X := (mo ln ∧ mo_cfp k i x σ, none, mo_cf k i x σ)
def fX8_confirm (ln : sw_A) : sw_F := sw_foii 8 (gX8_confirm ln)
def ctX8_confirm (ln : sw_A) : sw_C := []
abbrev wX8_confirm (ln : sw_A) (Q : Option sw_V → sw_S → Prop) : Nat → Nat → sw_L → List sw_V → sw_S → Prop := sw_wp sw_rf ln (ctX8_confirm ln) sX8_confirm 0 160 tX8_confirm Q
theorem hX8_confirm_i (ln : sw_A) (k B r c : Nat) (i x y : Int32) (σ : sw_S) (X : sw_X) (hm : mo ln) (hq : B + r + c < 30) (M : Nat) (hM : wX8_confirm ln (sw_end X) M 154 [some (.inr (some (8, k))), some (.inl i), some (.inl x), some (.inl y), some (.inl (nI c)), some (.inl (nI (B + r))), some (.inl (nI 19))] [] (mo_di 24 (nI (B + r)) (nI c) 19 σ)) : ∀ (d j : Nat), j + d = 19 → ∃ fuel, wX8_confirm ln (sw_end X) fuel 112 [some (.inr (some (8, k))), some (.inl i), some (.inl x), some (.inl y), some (.inl (nI c)), some (.inl (nI (B + r))), some (.inl (nI j))] [] (mo_di 24 (nI (B + r)) (nI c) j σ) := by
  intro d
  induction d with
  | zero =>
    intro j hj
    have hj : j = 19 := by omega
    subst hj
    refine ⟨M + 20, sw_ws_wp [154] M 20 _ _ _ _ ?_⟩
    exact And.intro (fun _ => hM) (fun (h : ¬ nI 19 ≤ nI 19) => absurd (Int32.le_refl _) h)
  | succ d ih =>
    intro j hj
    have v1 : vp_in (19 * (nI (B + r) + nI c) + nI j) 570 := by
      rw [mo_19c]
      exact vp_in_nI (by omega) (by decide)
    have v2 : vp_in (19 * nI (B + r) + nI j) 570 := by
      rw [mo_19]
      exact vp_in_nI (by omega) (by decide)
    obtain ⟨f, hf⟩ := ih (j + 1) (by omega)
    rw [← nI_1] at hf
    refine ⟨f + 40, sw_ws_wp [112] f 40 _ _ _ _ ?_⟩
    exact And.intro (fun (h : nI 19 ≤ nI j) => absurd h (nI_ge (a := j) (b := 19) (by omega) (by decide))) (fun _ => And.intro (hm.i (j := 24) rfl v1) (And.intro (hm.i (j := 24) rfl v2) hf))
theorem hX8_confirm_o (ln : sw_A) (k s n c : Nat) (x y : Int32) (σ : sw_S) (X : sw_X) (hm : mo ln) (hs : s < 2) (hn : n + c ≤ 15) (hz : mi σ 22 (nI s) = nI n) (hX : X.2 = (none, mo_dm 23 24 (15 * s) (nI c) n σ)) : ∀ (d r : Nat), r + d = n → ∃ fuel, ∀ v6, wX8_confirm ln (sw_end X) fuel 76 [some (.inr (some (8, k))), some (.inl (nI s)), some (.inl x), some (.inl y), some (.inl (nI c)), some (.inl (nI (15 * s + r))), v6] [] (mo_dm 23 24 (15 * s) (nI c) r σ) := by
  have hi : vp_in (nI s) 2 := vp_in_nI hs (by decide)
  have v22 := hm.i (j := 22) rfl hi
  have hbase : ∀ m : Nat, (15 : Int32) * nI s + nI m = nI (15 * s + m) := fun m => by rw [show (15 : Int32) * nI s = nI (15 * s) from pk_mul 15 s, nI_add]
  intro d
  induction d with
  | zero =>
    intro r hr
    have hr : r = n := by omega
    subst hr
    have hl : mi (mo_dm 23 24 (15 * s) (nI c) r σ) 22 (nI s) = nI r := (mo_dm_k 23 24 _ (nI c) (by decide) (by decide) _ r σ).trans hz
    refine ⟨30, fun v6 => And.intro v22 (And.intro (fun _ => ?_) (fun (h : ¬ 15 * nI s + mi (mo_dm 23 24 (15 * s) (nI c) r σ) 22 (nI s) ≤ nI (15 * s + r)) => absurd (by rw [hl, hbase]; exact Int32.le_refl _) h))⟩
    show none = X.2.1 ∧ mo_dm 23 24 (15 * s) (nI c) r σ = X.2.2
    rw [hX]
    exact ⟨rfl, rfl⟩
  | succ d ih =>
    intro r hr
    have hl : mi (mo_dm 23 24 (15 * s) (nI c) r σ) 22 (nI s) = nI n := (mo_dm_k 23 24 _ (nI c) (by decide) (by decide) _ r σ).trans hz
    have hlt : ¬ 15 * nI s + mi (mo_dm 23 24 (15 * s) (nI c) r σ) 22 (nI s) ≤ nI (15 * s + r) := by
      rw [hl, hbase]
      exact nI_ge (by omega) (by omega)
    have v1 : vp_in (nI (15 * s + r) + nI c) 30 := by rw [nI_add]; exact vp_in_nI (by omega) (by decide)
    have v2 : vp_in (nI (15 * s + r)) 30 := vp_in_nI (by omega) (by decide)
    obtain ⟨f, hf⟩ := ih (r + 1) (by omega)
    have hf := hf (some (.inl (nI 19)))
    rw [show 15 * s + (r + 1) = 15 * s + r + 1 by omega, ← nI_1] at hf
    have k154 : wX8_confirm ln (sw_end X) (f + 10) 154 [some (.inr (some (8, k))), some (.inl (nI s)), some (.inl x), some (.inl y), some (.inl (nI c)), some (.inl (nI (15 * s + r))), some (.inl (nI 19))] [] (mo_dm 23 24 (15 * s) (nI c) (r + 1) σ) := sw_ws_wp [76] f 10 _ _ _ _ hf
    obtain ⟨M, hM⟩ : ∃ M, M = f + 10 := ⟨_, rfl⟩
    rw [← hM] at k154
    obtain ⟨g, hg⟩ := hX8_confirm_i ln k (15 * s) r c (nI s) x y (mis (mo_dm 23 24 (15 * s) (nI c) r σ) 23 (nI (15 * s + r)) (mi (mo_dm 23 24 (15 * s) (nI c) r σ) 23 (nI (15 * s + r) + nI c))) X hm (by omega) M k154 19 0 (by omega)
    refine ⟨g + 40, fun v6 => sw_ws_wp [112] g 40 _ _ _ _ ?_⟩
    exact And.intro v22 (And.intro (fun h => absurd h hlt) (fun _ => And.intro (hm.i (j := 23) rfl v1) (And.intro (hm.i (j := 23) rfl v2) hg)))
theorem hX8_confirm (ln : sw_A) (k : Nat) (i x : Int32) (σ : sw_S) (h : (gX8_confirm ln k i x σ).1) : ∃ fuel, wX8_confirm ln (sw_end (gX8_confirm ln k i x σ)) fuel 0 (sw_ent 7 [.inr (some (8, k)), .inl i, .inl x]) [] σ := by
  obtain ⟨hm, hw, s, hs, rfl, hc⟩ := h
  have hi : vp_in (nI s) 2 := vp_in_nI hs (by decide)
  have v28 := hm.i (j := 28) rfl hi
  have v22 := hm.i (j := 22) rfl hi
  by_cases h1 : mo_cn k (nI s) x σ ≤ mi σ 22 (nI s)
  · obtain ⟨c, r, hcr, hce, hre⟩ := hc h1
    obtain ⟨f, hf⟩ := hX8_confirm_o ln k s r c x (mo_ol k (nI s) σ) (mo_c1 k (nI s) x σ) (gX8_confirm ln k (nI s) x σ) hm hs (by omega) ((sw_upe _ _ _ _ _).trans hre) (by
      show (none, mo_cf k (nI s) x σ) = _
      unfold mo_cf
      rw [if_pos h1, hre, hce, nI_clamp (by omega), nI_clamp (by omega)]) r 0 (by omega)
    have hf := hf none
    rw [show nI (15 * s + 0) = (15 : Int32) * nI s from (pk_mul 15 s).symm, ← hce] at hf
    refine ⟨f + 60, sw_ws_wp [76] f 60 _ _ _ _ ?_⟩
    have hf : wX8_confirm ln (sw_end (gX8_confirm ln k (nI s) x σ)) f 76 [some (.inr (some (8, k))), some (.inl (nI s)), some (.inl x), some (.inl (mo_ol k (nI s) σ)), some (.inl (mo_cn k (nI s) x σ)), some (.inl ((15 : Int32) * nI s)), none] [] (mo_c1 k (nI s) x σ) := hf
    exact And.intro v28 (And.intro v22 (And.intro hw (And.intro hw (And.intro v22 (And.intro (fun _ => And.intro v22 (And.intro v22 hf)) (fun z => absurd h1 z))))))
  · refine ⟨60, And.intro v28 (And.intro v22 (And.intro hw (And.intro hw (And.intro v22 (And.intro (fun z => absurd z h1) (fun _ => ⟨rfl, (if_neg h1).symm⟩))))))⟩
set_option maxRecDepth 100000 in
theorem mX8_confirm {l : Launch} {ad : sw_A} {V : Nat → Nat → Prop} {ln : sw_A} {ca : Nat → ClassId} {D : va_G} (hG : sw_wf ad V sw_rf ln) : sw_met l ad V sw_rf ln ca D yX8_confirm cX8_confirm 7 none { frames := 0, cells := 0, slots := 0, locals := 0 } 3 (fX8_confirm ln) := by
  refine sw_meth hG (by decide) (by refine ⟨?_, ?_, ?_, ?_⟩ <;> intro h <;> first | rfl | exact ⟨_, rfl⟩ | exact absurd h (by decide)) (by decide) kX8_confirm flX8_in cnX8_in ?_ (sw_foii_h (W := fun Q L σ => ∃ fuel, wX8_confirm ln Q fuel 0 L [] σ) (fun a0 a1 a2 σ h => hX8_confirm ln a0 a1 a2 σ h))
  intro p e s m args below meth c S hT hnw
  exact fun q h => absurd h List.not_mem_nil
