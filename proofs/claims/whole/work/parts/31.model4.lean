/-! The reference: finish, sendOf -/
def mo_fq (i : Int32) (a : sw_S) : Int32 := 15 * i + mi a 22 i
def mo_f3 (k : Nat) (i : Int32) (a : sw_S) : sw_S := mo_cp 24 (mo_fq i a) (a 8 k 39).toNatClampNeg (mis a 23 (mo_fq i a) (a 8 k 39))
def mo_f4 (i : Int32) (b : sw_S) : sw_S := mis b 22 i (mi b 22 i + 1)
def mo_f5 (k : Nat) (i : Int32) (c : sw_S) : sw_S := mis c 28 i (sw_rem (mi c 28 i + 1) (c 8 k 2 + 1))
def mo_fa (k : Nat) (i : Int32) (a : sw_S) : sw_S := if mi a 38 0 &&& 7 = 0 then a else mo_f5 k i (mo_f4 i (mo_f3 k i a))
def mo_fs (k : Nat) (σ : sw_S) : sw_S := mo_ad k (sm (mi σ 38) (σ 8 k 39).toNatClampNeg) σ
def mo_fi (k : Nat) (i : Int32) (σ : sw_S) : sw_S := mo_wi k i (mo_fa k i (mo_fs k σ))
def mo_fc (k : Nat) (i : Int32) (a : sw_S) : Prop := (¬ mi a 38 0 &&& 7 = 0 → vp_in (mo_fq i a) 30 ∧ (∀ n, n < 19 → vp_in (19 * mo_fq i a + nI n) 570) ∧ ¬ a 8 k 2 + 1 = 0 ∧ 0 ≤ a 8 k 39 ∧ a 8 k 39 ≤ 19) ∧ mo_wp k i (mo_fa k i a)
def gX8_finish (ln : sw_A) (k : Nat) (i : Int32) (σ : sw_S) : sw_X := (mo ln ∧ vp_in i 2 ∧ 0 ≤ σ 8 k 39 ∧ σ 8 k 39 ≤ 18 ∧ mo_fc k i (mo_fs k σ), none, mo_fi k i σ)
def fX8_finish (ln : sw_A) : sw_F := sw_foi 8 (gX8_finish ln)
def ctX8_finish (ln : sw_A) : sw_C := [(157, 2, 9, fX8_sumOf ln), (160, 2, 9, fX8_add ln), (163, 2, 9, fX8_ontoWire ln)]
abbrev wX8_finish (ln : sw_A) (Q : Option sw_V → sw_S → Prop) : Nat → Nat → sw_L → List sw_V → sw_S → Prop := sw_wp sw_rf ln (ctX8_finish ln) sX8_finish 0 115 tX8_finish Q
theorem hX8_finish_l (ln : sw_A) (k n : Nat) (i q : Int32) (σ : sw_S) (X : sw_X) (hm : mo ln) (hn : n ≤ 19) (hz : σ 8 k 39 = nI n) (hb : ∀ n, n < 19 → vp_in (19 * q + nI n) 570) (M : Nat) (hM : wX8_finish ln (sw_end X) M 79 [some (.inr (some (8, k))), some (.inl i), some (.inl q), some (.inl (nI n))] [] (mo_cp 24 q n σ)) : ∀ (d j : Nat), j + d = n → ∃ fuel, wX8_finish ln (sw_end X) fuel 48 [some (.inr (some (8, k))), some (.inl i), some (.inl q), some (.inl (nI j))] [] (mo_cp 24 q j σ) := by
  intro d
  induction d with
  | zero =>
    intro j hj
    have hj : j = n := by omega
    subst hj
    have hl : mo_cp 24 q j σ 8 k 39 = nI j := (mo_cp_k 24 q (fun z => absurd z.1 (by decide)) 39 j σ).trans hz
    refine ⟨M + 20, sw_ws_wp [79] M 20 _ _ _ _ ?_⟩
    exact And.intro (fun _ => hM) (fun (h : ¬ mo_cp 24 q j σ 8 k 39 ≤ nI j) => absurd (by rw [hl]; exact Int32.le_refl _) h)
  | succ d ih =>
    intro j hj
    have hl : mo_cp 24 q j σ 8 k 39 = nI n := (mo_cp_k 24 q (fun z => absurd z.1 (by decide)) 39 j σ).trans hz
    have v1 := hm.i (j := 38) (n := 19) rfl (vp_in_nI (n := j) (by omega) (by omega))
    have v2 := hm.i (j := 24) rfl (hb j (by omega))
    obtain ⟨f, hf⟩ := ih (j + 1) (by omega)
    rw [← nI_1] at hf
    refine ⟨f + 40, sw_ws_wp [48] f 40 _ _ _ _ ?_⟩
    refine And.intro (fun (h : mo_cp 24 q j σ 8 k 39 ≤ nI j) => absurd (by rw [← hl]; exact h) (nI_ge (a := j) (b := n) (by omega) (by omega))) (fun _ => And.intro v1 (And.intro v2 ?_))
    exact hf
theorem vp_in_le18 {x : Int32} (h0 : 0 ≤ x) (h1 : x ≤ 18) : vp_in x 19 := by
  obtain ⟨n, hn, rfl⟩ := nI_of (Int32.not_lt.mpr h0)
  have := (nI_leI hn (b := 18) (by decide)).mp h1
  exact vp_in_nI (by omega) (by decide)
theorem hX8_finish (ln : sw_A) (k : Nat) (i : Int32) (σ : sw_S) (h : (gX8_finish ln k i σ).1) : ∃ fuel, wX8_finish ln (sw_end (gX8_finish ln k i σ)) fuel 0 (sw_ent 4 [.inr (some (8, k)), .inl i]) [] σ := by
  obtain ⟨hm, hi, h0, h1, hc, hw⟩ := h
  obtain ⟨a, ha⟩ : ∃ a, a = mo_fs k σ := ⟨_, rfl⟩
  rw [← ha] at hc hw
  have hsum : (gX8_sumOf ln k (σ 8 k 39) σ).1 := ⟨hm, h0, Int32.le_trans h1 (by decide)⟩
  have hadd : (gX8_add ln k (sm (mi σ 38) (σ 8 k 39).toNatClampNeg) σ).1 := ⟨hm, vp_in_le18 h0 h1⟩
  have k110 : ∃ M, ∀ b x2 x3, b = mo_fa k i a → wX8_finish ln (sw_end (gX8_finish ln k i σ)) M 110 [some (.inr (some (8, k))), some (.inl i), x2, x3] [] b := by
    refine ⟨10, fun b x2 x3 hb => ?_⟩
    subst hb
    refine And.intro ⟨hm, hw⟩ ⟨rfl, ?_⟩
    show mo_wi k i (mo_fa k i a) = mo_fi k i σ
    rw [ha]
    rfl
  obtain ⟨M, k110⟩ := k110
  have k12 : ∃ M, ∀ b, b = a → wX8_finish ln (sw_end (gX8_finish ln k i σ)) M 12 [some (.inr (some (8, k))), some (.inl i), none, none] [] b := by
    by_cases h2 : mi a 38 0 &&& 7 = 0
    · refine ⟨M + 20, fun b hb => sw_ws_wp [110] M 20 _ _ _ _ ?_⟩
      subst hb
      exact And.intro (hm.i (j := 38) rfl vp_0_19) (And.intro (fun _ => k110 _ _ _ (if_pos h2).symm) (fun z => absurd h2 z))
    · obtain ⟨c1, c2, c3, c4, c5⟩ := hc h2
      obtain ⟨n, hn, hz⟩ := nI_of (Int32.not_lt.mpr c4)
      rw [hz] at c5
      have hn2 : n ≤ 19 := (nI_leI hn (b := 19) (by decide)).mp c5
      have e3 : mo_f3 k i a = mo_cp 24 (mo_fq i a) n (mis a 23 (mo_fq i a) (a 8 k 39)) := by
        unfold mo_f3
        rw [hz, nI_clamp hn]
      have hwin : ¬ (mo_f4 i (mo_f3 k i a)) 8 k 2 + 1 = 0 := by
        rw [show (mo_f4 i (mo_f3 k i a)) 8 k 2 = mo_f3 k i a 8 k 2 from sw_upk _ (by decide), e3, mo_cp_k 24 _ (fun z => absurd z.1 (by decide)), show mis a 23 (mo_fq i a) (a 8 k 39) 8 k 2 = a 8 k 2 from sw_upk _ (by decide)]
        exact c3
      have k79 : ∃ M2, ∀ b, b = mo_f3 k i a → wX8_finish ln (sw_end (gX8_finish ln k i σ)) M2 79 [some (.inr (some (8, k))), some (.inl i), some (.inl (mo_fq i a)), some (.inl (nI n))] [] b := by
        refine ⟨M + 40, fun b hb => sw_ws_wp [110] M 40 _ _ _ _ ?_⟩
        subst hb
        exact And.intro (hm.i (j := 22) rfl hi) (And.intro (hm.i (j := 22) rfl hi) (And.intro (hm.i (j := 28) rfl hi) (And.intro hwin (And.intro (hm.i (j := 28) rfl hi) (k110 _ _ _ (if_neg h2).symm)))))
      obtain ⟨M2, k79⟩ := k79
      obtain ⟨f, hf⟩ := hX8_finish_l ln k n i (mo_fq i a) (mis a 23 (mo_fq i a) (a 8 k 39)) (gX8_finish ln k i σ) hm hn2 ((sw_upk _ (by decide)).trans hz) c2 M2 (k79 _ e3.symm) n 0 (by omega)
      refine ⟨f + 40, fun b hb => sw_ws_wp [48] f 40 _ _ _ _ ?_⟩
      subst hb
      exact And.intro (hm.i (j := 38) rfl vp_0_19) (And.intro (fun z => absurd z h2) (fun _ => And.intro (hm.i (j := 22) rfl hi) (And.intro (hm.i (j := 23) rfl c1) hf)))
  obtain ⟨M3, k12⟩ := k12
  refine ⟨M3 + 20, sw_ws_wp [12] M3 20 _ _ _ _ ?_⟩
  exact And.intro hsum (And.intro hadd (k12 _ ha.symm))
set_option maxRecDepth 100000 in
theorem mX8_finish {l : Launch} {ad : sw_A} {V : Nat → Nat → Prop} {ln : sw_A} {ca : Nat → ClassId} {D : va_G} (hG : sw_wf ad V sw_rf ln) : sw_met l ad V sw_rf ln ca D yX8_finish cX8_finish 4 none { frames := 1, cells := 0, slots := 0, locals := 24 } 2 (fX8_finish ln) := by
  refine sw_meth hG (by decide) (by refine ⟨?_, ?_, ?_, ?_⟩ <;> intro h <;> first | rfl | exact ⟨_, rfl⟩ | exact absurd h (by decide)) (by decide) kX8_finish flX8_in cnX8_in ?_ (sw_foi_h (W := fun Q L σ => ∃ fuel, wX8_finish ln Q fuel 0 L [] σ) (fun a0 a1 σ h => hX8_finish ln a0 a1 σ h))
  intro p e s m args below meth c S hT hnw
  refine List.forall_mem_cons.mpr ⟨sw_cokV S hT hnw (mX8_sumOf hG) 157 8 (by decide) ⟨by decide +kernel, by decide +kernel, by decide +kernel, by decide +kernel, by decide +kernel⟩ ⟨rfl, by decide, by decide, by decide +kernel⟩ ⟨rfl, rfl⟩ ⟨by decide, by decide⟩, ?_⟩
  refine List.forall_mem_cons.mpr ⟨sw_cokV S hT hnw (mX8_add hG) 160 8 (by decide) ⟨by decide +kernel, by decide +kernel, by decide +kernel, by decide +kernel, by decide +kernel⟩ ⟨rfl, by decide, by decide, by decide +kernel⟩ ⟨rfl, rfl⟩ ⟨by decide, by decide⟩, ?_⟩
  refine List.forall_mem_cons.mpr ⟨sw_cokV S hT hnw (mX8_ontoWire hG) 163 8 (by decide) ⟨by decide +kernel, by decide +kernel, by decide +kernel, by decide +kernel, by decide +kernel⟩ ⟨rfl, by decide, by decide, by decide +kernel⟩ ⟨rfl, rfl⟩ ⟨by decide, by decide⟩, ?_⟩
  exact fun q h => absurd h List.not_mem_nil
def mo_q1 (x : Int32) (σ : sw_S) : Int32 := if mi σ 8 x ≤ mi σ 16 x then mi σ 8 x else mi σ 16 x
def mo_qn (k : Nat) (x : Int32) (σ : sw_S) : Int32 := if σ 8 k 1 ≤ mo_q1 x σ then σ 8 k 1 else mo_q1 x σ
def mo_bi (x : Int32) (s : sw_S) : Nat → Int32
  | 0 => 0
  | j + 1 => if mb s 18 (mo_rx x j) = 0 then mo_bi x s j ||| 0 else mo_bi x s j ||| (1 : Int32) <<< (nI j &&& 31)
def mo_aw (k : Nat) (x : Int32) : Nat → sw_S → sw_S
  | 0, σ => σ
  | j + 1, σ => mo_ad k (mi (mo_aw k x j σ) 17 (mo_rx x j)) (mo_aw k x j σ)
def mo_s3 (x c : Int32) (a : sw_S) : sw_S := mis a 16 x (mi a 16 x - c)
def mo_sa (x c : Int32) (n : Nat) (a : sw_S) : sw_S := mis a 17 (mo_rx x n) (mi a 17 (mo_rx x n + c))
def mo_sh (x c : Int32) : Nat → sw_S → sw_S
  | 0, σ => σ
  | n + 1, σ => mbs (mo_sa x c n (mo_sh x c n σ)) 18 (mo_rx x n) (mb (mo_sa x c n (mo_sh x c n σ)) 18 (mo_rx x n + c))
def mo_s4 (x c : Int32) (a : sw_S) : sw_S := mis a 8 x (mi a 8 x - c)
theorem mo_ad_k (k : Nat) (w : Int32) (σ : sw_S) {c k' : Nat} (h : ¬ (c = 15 ∧ k' = 38)) (h8 : ¬ c = 8) (j' : Nat) : mo_ad k w σ c k' j' = σ c k' j' := (sw_upk _ h8).trans (if_neg (fun z => h ⟨z.1, z.2.1⟩))
theorem mo_ad_s (k : Nat) (w : Int32) (σ : sw_S) : mo_ad k w σ 8 k 39 = σ 8 k 39 + 1 := (sw_upe _ _ _ _ _).trans (congrArg (· + 1) (sw_upk _ (by decide)))
theorem mo_aw_k (k : Nat) (x : Int32) {c k' : Nat} (h : ¬ (c = 15 ∧ k' = 38)) (h8 : ¬ c = 8) (j' : Nat) : ∀ (n : Nat) (σ : sw_S), mo_aw k x n σ c k' j' = σ c k' j'
  | 0, _ => rfl
  | n + 1, σ => (mo_ad_k k _ _ h h8 j').trans (mo_aw_k k x h h8 j' n σ)
theorem mo_aw_s (k : Nat) (x : Int32) : ∀ (n m : Nat) (σ : sw_S), σ 8 k 39 = nI m → mo_aw k x n σ 8 k 39 = nI (m + n)
  | 0, _, _, h => h
  | n + 1, m, σ, h => by
    show mo_ad k _ (mo_aw k x n σ) 8 k 39 = _
    rw [mo_ad_s, mo_aw_s k x n m σ h, nI_1]
    rfl
theorem mo_sh_k (x c' : Int32) {c k' : Nat} (h : ¬ (c = 15 ∧ k' = 17)) (h2 : ¬ (c = 16 ∧ k' = 18)) (j' : Nat) : ∀ (n : Nat) (σ : sw_S), mo_sh x c' n σ c k' j' = σ c k' j'
  | 0, _ => rfl
  | n + 1, σ => (if_neg (fun z => h2 ⟨z.1, z.2.1⟩)).trans ((if_neg (fun z => h ⟨z.1, z.2.1⟩)).trans (mo_sh_k x c' h h2 j' n σ))
theorem mo_sh_b (x c : Int32) : ∀ (n : Nat) (σ : sw_S), (∀ y, sw_bo (σ 16 18 y)) → ∀ y, sw_bo (mo_sh x c n σ 16 18 y)
  | 0, _, h, y => h y
  | n + 1, σ, h, y => by
    have ih := mo_sh_b x c n σ h
    have hr : ∀ z, mo_sa x c n (mo_sh x c n σ) 16 18 z = mo_sh x c n σ 16 18 z := fun z => sw_upk _ (by decide)
    show sw_bo (sw_up (mo_sa x c n (mo_sh x c n σ)) 16 18 _ _ 16 18 y)
    unfold sw_up
    split
    · show sw_bo (mo_sa x c n (mo_sh x c n σ) 16 18 _)
      rw [hr]
      exact ih _
    · show sw_bo (mo_sa x c n (mo_sh x c n σ) 16 18 _)
      rw [hr]
      exact ih y
def mo_d2 (k n : Nat) (x : Int32) (s : sw_S) : sw_S := mo_aw k x n (mo_ad k (mo_bi x s n) s)
def mo_d3 (k n : Nat) (x c : Int32) (s : sw_S) : sw_S := mo_s3 x c (mo_d2 k n x s)
def mo_d4 (k n : Nat) (x c : Int32) (s : sw_S) : sw_S := mo_s4 x c (mo_sh x c (mi (mo_d3 k n x c s) 16 x).toNatClampNeg (mo_d3 k n x c s))
def mo_dd (k : Nat) (i t x : Int32) (σ : sw_S) : sw_S := mo_d4 k (mo_qn k x σ).toNatClampNeg x (mo_qn k x σ) (mo_bf k i 1 t (mo_qn k x σ) σ)
def mo_so (k : Nat) (i t x : Int32) (σ : sw_S) : sw_S := if mb σ 11 x = 0 then (if mi σ 16 x ≤ 0 then mo_bf k i 4 t 0 (mbs σ 12 x 0) else mo_dd k i t x σ) else mo_bf k i 3 t 0 (mbs σ 11 x 0)
def mo_dp (k : Nat) (x : Int32) (σ : sw_S) : Prop := ∃ n q : Nat, n ≤ 16 ∧ n ≤ q ∧ q < 2 ^ 31 ∧ mo_qn k x σ = nI n ∧ mi σ 16 x = nI q ∧ ∀ j, j < q → vp_in (mo_rx x j) 6400
def gX8_sendOf (ln : sw_A) (k : Nat) (i t : Int32) (σ : sw_S) : sw_X := (mo ln ∧ (∀ y, sw_bo (σ 16 18 y)) ∧ vp_in i 2 ∧ vp_in (mo_ix i t) 16 ∧ (¬ mi σ 16 (mo_ix i t) ≤ 0 → mo_dp k (mo_ix i t) σ) ∧ (gX8_finish ln k i (mo_so k i t (mo_ix i t) σ)).1, none, mo_fi k i (mo_so k i t (mo_ix i t) σ))
def fX8_sendOf (ln : sw_A) : sw_F := sw_foii 8 (gX8_sendOf ln)
def ctX8_sendOf (ln : sw_A) : sw_C := [(166, 5, 9, fX8_beginFrame ln), (160, 2, 9, fX8_add ln), (170, 2, 9, fX8_finish ln)]
abbrev wX8_sendOf (ln : sw_A) (Q : Option sw_V → sw_S → Prop) : Nat → Nat → sw_L → List sw_V → sw_S → Prop := sw_wp sw_rf ln (ctX8_sendOf ln) sX8_sendOf 0 314 tX8_sendOf Q
abbrev mo_LS (k : Nat) (i t x : Int32) (v4 v5 v6 : Option sw_V) : sw_L := [some (.inr (some (8, k))), some (.inl i), some (.inl t), some (.inl x), v4, v5, v6]
theorem hX8_sendOf_b (ln : sw_A) (k n : Nat) (i t x : Int32) (s : sw_S) (X : sw_X) (hm : mo ln) (hn : n ≤ 16) (hb : ∀ j, j < n → vp_in (mo_rx x j) 6400) (M : Nat) (hM : wX8_sendOf ln (sw_end X) M 152 (mo_LS k i t x (some (.inl (nI n))) (some (.inl (mo_bi x s n))) (some (.inl (nI n)))) [] s) : ∀ (d j : Nat), j + d = n → ∃ fuel, wX8_sendOf ln (sw_end X) fuel 110 (mo_LS k i t x (some (.inl (nI n))) (some (.inl (mo_bi x s j))) (some (.inl (nI j)))) [] s := by
  intro d
  induction d with
  | zero =>
    intro j hj
    have hj : j = n := by omega
    subst hj
    refine ⟨M + 20, sw_ws_wp [152] M 20 _ _ _ _ ?_⟩
    exact And.intro (fun _ => hM) (fun (h : ¬ nI j ≤ nI j) => absurd (Int32.le_refl _) h)
  | succ d ih =>
    intro j hj
    obtain ⟨f, hf⟩ := ih (j + 1) (by omega)
    rw [← nI_1] at hf
    refine ⟨f + 40, sw_ws_wp [110] f 40 _ _ _ _ ?_⟩
    refine And.intro (fun (h : nI n ≤ nI j) => absurd h (nI_ge (a := j) (b := n) (by omega) (by omega))) (fun _ => And.intro (hm.z (j := 18) rfl (hb j (by omega))) (And.intro (fun (h1 : mb s 18 (mo_rx x j) = 0) => ?_) (fun (h1 : ¬ mb s 18 (mo_rx x j) = 0) => ?_)))
    · rw [show mo_bi x s (j + 1) = _ from if_pos h1] at hf
      exact hf
    · rw [show mo_bi x s (j + 1) = _ from if_neg h1] at hf
      exact hf
theorem hX8_sendOf_w (ln : sw_A) (k n : Nat) (i t x : Int32) (v5 : Option sw_V) (s : sw_S) (X : sw_X) (hm : mo ln) (hn : n ≤ 16) (hz : s 8 k 39 = nI 2) (hb : ∀ j, j < n → vp_in (mo_rx x j) 6400) (M : Nat) (hM : wX8_sendOf ln (sw_end X) M 191 (mo_LS k i t x (some (.inl (nI n))) v5 (some (.inl (nI n)))) [] (mo_aw k x n s)) : ∀ (d j : Nat), j + d = n → ∃ fuel, wX8_sendOf ln (sw_end X) fuel 161 (mo_LS k i t x (some (.inl (nI n))) v5 (some (.inl (nI j)))) [] (mo_aw k x j s) := by
  intro d
  induction d with
  | zero =>
    intro j hj
    have hj : j = n := by omega
    subst hj
    refine ⟨M + 20, sw_ws_wp [191] M 20 _ _ _ _ ?_⟩
    exact And.intro (fun _ => hM) (fun (h : ¬ nI j ≤ nI j) => absurd (Int32.le_refl _) h)
  | succ d ih =>
    intro j hj
    have hs : vp_in (mo_aw k x j s 8 k 39) 19 := by
      rw [mo_aw_s k x j 2 s hz]
      exact vp_in_nI (by omega) (by decide)
    obtain ⟨f, hf⟩ := ih (j + 1) (by omega)
    rw [← nI_1] at hf
    refine ⟨f + 40, sw_ws_wp [161] f 40 _ _ _ _ ?_⟩
    exact And.intro (fun (h : nI n ≤ nI j) => absurd h (nI_ge (a := j) (b := n) (by omega) (by omega))) (fun _ => And.intro (hm.i (j := 17) rfl (hb j (by omega))) (And.intro ⟨hm, hs⟩ hf))
theorem mo_rx_add (x : Int32) (j n : Nat) : mo_rx x j + nI n = mo_rx x (j + n) := by
  unfold mo_rx
  rw [Int32.add_assoc, nI_add]
theorem hX8_sendOf_h (ln : sw_A) (k n r : Nat) (i t x : Int32) (v5 : Option sw_V) (s : sw_S) (X : sw_X) (hm : mo ln) (hx : vp_in x 16) (hr : r < 2 ^ 31) (hz : mi s 16 x = nI r) (hbo : ∀ y, sw_bo (s 16 18 y)) (hb : ∀ j, j < r + n → vp_in (mo_rx x j) 6400) (M : Nat) (hM : wX8_sendOf ln (sw_end X) M 280 (mo_LS k i t x (some (.inl (nI n))) v5 (some (.inl (nI r)))) [] (mo_sh x (nI n) r s)) : ∀ (d j : Nat), j + d = r → ∃ fuel, wX8_sendOf ln (sw_end X) fuel 205 (mo_LS k i t x (some (.inl (nI n))) v5 (some (.inl (nI j)))) [] (mo_sh x (nI n) j s) := by
  intro d
  have v16 := hm.i (j := 16) rfl hx
  induction d with
  | zero =>
    intro j hj
    have hj : j = r := by omega
    subst hj
    have hl : mi (mo_sh x (nI n) j s) 16 x = nI j := (mo_sh_k x (nI n) (by decide) (by decide) _ j s).trans hz
    refine ⟨M + 20, sw_ws_wp [280] M 20 _ _ _ _ ?_⟩
    exact And.intro v16 (And.intro (fun _ => hM) (fun (h : ¬ mi (mo_sh x (nI n) j s) 16 x ≤ nI j) => absurd (by rw [hl]; exact Int32.le_refl _) h))
  | succ d ih =>
    intro j hj
    have hl : mi (mo_sh x (nI n) j s) 16 x = nI r := (mo_sh_k x (nI n) (by decide) (by decide) _ j s).trans hz
    have b1 := hb j (by omega)
    have b2 : vp_in (mo_rx x j + nI n) 6400 := by rw [mo_rx_add]; exact hb (j + n) (by omega)
    have hbb : sw_bo (mb (mo_sa x (nI n) j (mo_sh x (nI n) j s)) 18 (mo_rx x j + nI n)) := by
      rw [show mb (mo_sa x (nI n) j (mo_sh x (nI n) j s)) 18 (mo_rx x j + nI n) = mb (mo_sh x (nI n) j s) 18 (mo_rx x j + nI n) from sw_upk _ (by decide)]
      exact mo_sh_b x (nI n) j s hbo _
    obtain ⟨f, hf⟩ := ih (j + 1) (by omega)
    rw [← nI_1] at hf
    refine ⟨f + 80, sw_ws_wp [205] f 80 _ _ _ _ ?_⟩
    exact And.intro v16 (And.intro (fun (h : mi (mo_sh x (nI n) j s) 16 x ≤ nI j) => absurd (by rw [← hl]; exact h) (nI_ge (a := j) (b := r) (by omega) hr)) (fun _ => And.intro (hm.i (j := 17) rfl b2) (And.intro (hm.i (j := 17) rfl b1) (And.intro (hm.z (j := 18) rfl b2) (And.intro (hm.z (j := 18) rfl b1) (And.intro hbb hf))))))
