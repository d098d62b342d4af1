/-! The pure part: the model's draft; what it sends -/
theorem sm_cg {w w' : Int32 → Int32} : ∀ n : Nat, (∀ j, j < n → w (nI j) = w' (nI j)) → sm_ab w n = sm_ab w' n
  | 0, _ => rfl
  | n + 1, h => by
    unfold sm_ab
    rw [sm_cg n (fun j hj => h j (by omega)), h n (by omega)]
def cpy (m : Nat → Int32) (B n : Nat) (v : Nat → Int32) : Nat → Int32 := fun z => if B ≤ z ∧ z < B + n then v (z - B) else m z
theorem cpy_0 (m : Nat → Int32) (B : Nat) (v : Nat → Int32) : cpy m B 0 v = m := by
  funext z
  exact if_neg (by omega)
theorem cpy_s (m : Nat → Int32) (B n : Nat) (v : Nat → Int32) : u1 (cpy m B n v) (B + n) (v n) = cpy m B (n + 1) v := by
  funext z
  unfold u1 cpy
  by_cases hz : z = B + n
  · subst hz
    rw [if_pos rfl, if_pos (by omega), Nat.add_sub_cancel_left]
  · rw [if_neg hz]
    by_cases hz2 : B ≤ z ∧ z < B + n
    · rw [if_pos hz2, if_pos (by omega)]
    · rw [if_neg hz2, if_neg (by omega)]
theorem cpy_in {m : Nat → Int32} {B n : Nat} {v : Nat → Int32} {j : Nat} (h : j < n) : cpy m B n v (B + j) = v j := by
  unfold cpy
  rw [if_pos (by omega), Nat.add_sub_cancel_left]
theorem cpy_out {m : Nat → Int32} {B n : Nat} {v : Nat → Int32} {z : Nat} (h : z < B ∨ B + n ≤ z) : cpy m B n v z = m z := if_neg (by omega)
theorem cp_go (a q : Nat) (ha : ¬ a = 38) (hq : q < 1000) (σ : sw_S) : ∀ n : Nat, n ≤ 19 → mo_cp a (nI q) n σ 15 a = cpy (σ 15 a) (19 * q) n (σ 15 38) ∧ (∀ j, ¬ j = a → mo_cp a (nI q) n σ 15 j = σ 15 j) ∧ ∀ c, ¬ c = 15 → mo_cp a (nI q) n σ c = σ c
  | 0, _ => by
    rw [cpy_0]
    exact ⟨rfl, fun _ _ => rfl, fun _ _ => rfl⟩
  | n + 1, hn => by
    obtain ⟨i1, i2, i3⟩ := cp_go a q ha hq σ n (by omega)
    obtain ⟨t, ht⟩ : ∃ t, t = mo_cp a (nI q) n σ := ⟨_, rfl⟩
    rw [← ht] at i1 i2 i3
    have e : mo_cp a (nI q) (n + 1) σ = sw_up t 15 a (19 * q + n) (t 15 38 n) := by
      show mis (mo_cp a (nI q) n σ) a (nI 19 * nI q + nI n) (mi (mo_cp a (nI q) n σ) 38 (nI n)) = _
      rw [← ht, nI_mul, nI_add, mis_n _ a (by omega), mi_n _ 38 (by omega)]
    rw [e]
    refine ⟨?_, fun j hj => ?_, fun c hc => ?_⟩
    · rw [up_rowS, i1, i2 38 (fun z => ha z.symm), cpy_s]
    · rw [up_row _ _ _ _ _ hj, i2 j hj]
    · rw [sw_upc _ hc, i3 c hc]
/-- a state with a draft -/
def mD (P : az_P) (σ : sw_S) (A : az) (l : List Int32) : Prop := mr P σ A ∧ σ 8 0 39 = nI l.length ∧ ra (σ 15 38) 0 l ∧ l.length ≤ 19
theorem mD_bf {P : az_P} {σ : sw_S} {A : az} (h : mr P σ A) (i kd t ct : Int32) : mD P (mo_bf 0 i kd t ct σ) A [mo_hd i kd t ct σ] := by
  have e : mo_bf 0 i kd t ct σ = sw_up (sw_up σ 15 38 0 (mo_hd i kd t ct σ)) 8 0 39 1 := rfl
  rw [e]
  refine ⟨mr_s h (fun j hj => ?_) (fun j hj => ?_) ?_, ?_, ?_, by show 1 ≤ 19; decide⟩
  · rw [sw_ups, u2_n _ _ (fun z => absurd z.2 (by omega)), sw_upc _ (by decide)]
  · rw [sw_upc _ (by decide), up_row _ _ _ _ _ hj]
  · rw [sw_upc _ (by decide), sw_upc _ (by decide)]
  · rw [sw_ups, u2_s]
    rfl
  · rw [sw_upc _ (by decide), up_rowS]
    intro j hj
    have hj : j = 0 := by
      have : j < 1 := hj
      omega
    subst hj
    exact u1_s _ _ _
theorem mD_ad {P : az_P} {σ : sw_S} {A : az} {l : List Int32} (h : mD P σ A l) (hl : l.length < 19) (w : Int32) : mD P (mo_ad 0 w σ) A (l ++ [w]) := by
  obtain ⟨h1, h2, h3, h4⟩ := h
  have e : mo_ad 0 w σ = sw_up (sw_up σ 15 38 l.length w) 8 0 39 (nI (l.length + 1)) := by
    unfold mo_ad
    rw [h2, mis_n _ 38 (by omega), sw_upc _ (by decide : ¬ 8 = 15), h2, nI_1]
  rw [e]
  refine ⟨mr_s h1 (fun j hj => ?_) (fun j hj => ?_) ?_, ?_, ?_, ?_⟩
  · rw [sw_ups, u2_n _ _ (fun z => absurd z.2 (by omega)), sw_upc _ (by decide)]
  · rw [sw_upc _ (by decide), up_row _ _ _ _ _ hj]
  · rw [sw_upc _ (by decide), sw_upc _ (by decide)]
  · rw [sw_ups, u2_s, List.length_append, List.length_singleton]
  · rw [sw_upc _ (by decide), up_rowS]
    have := ra_app h3 w
    rw [Nat.zero_add] at this
    exact this
  · rw [List.length_append, List.length_singleton]
    omega
theorem mD_at {P : az_P} {σ : sw_S} {A : az} {l : List Int32} (h : mD P σ A l) {j : Nat} (hj : j < l.length) : mi σ 38 (nI j) = l.getD j 0 := by
  have := h.2.2.2
  rw [mi_n σ 38 (by omega)]
  have := h.2.2.1 j hj
  rw [Nat.zero_add] at this
  exact this
theorem mD_sm {P : az_P} {σ : sw_S} {A : az} {l : List Int32} (h : mD P σ A l) {n : Nat} (hn : n ≤ l.length) : sm (mi σ 38) n = sm (la l) n := by
  have hl := h.2.2.2
  unfold sm
  rw [sm_cg n (w := mi σ 38) (w' := la l) (fun j hj => by rw [mD_at h (by omega), la_nI (by omega) (by omega)])]
theorem mD_fs {P : az_P} {σ : sw_S} {A : az} {l : List Int32} (h : mD P σ A l) (hl : l.length < 19) : mD P (mo_fs 0 σ) A (o_seal l) := by
  unfold mo_fs o_seal
  rw [h.2.1, nI_clamp (by omega), mD_sm h (Nat.le_refl _)]
  exact mD_ad h hl _
theorem mG_app {g h m : Nat → Int32} {W : Nat} {F : Nat → List (List Int32)} (hG : mG g h m W F) (hW : ∀ s, s < 2 → (F s).length ≤ W) (hl : ∀ s, s < 2 → ∀ l ∈ F s, l.length ≤ 19) {s : Nat} (hs : s < 2) (hn : (F s).length < W) {l : List Int32} (hll : l.length ≤ 19) {v : Nat → Int32} (hv : ra v 0 l) {g' h' m' : Nat → Int32} (hg : g' = u1 g s (nI ((F s).length + 1))) (hh : h' = u1 h (W * s + (F s).length) (nI l.length)) (hm : m' = cpy m (19 * (W * s + (F s).length)) l.length v) : mG g' h' m' W (u1 F s (F s ++ [l])) := by
  intro s' hs'
  obtain ⟨a1, a2⟩ := hG s' hs'
  have w2 := hW s' hs'
  by_cases hss : s' = s
  · subst hss
    rw [u1_s, hg, u1_s, List.length_append, List.length_singleton]
    refine ⟨rfl, fun n hn2 => ?_⟩
    by_cases hnn : n = (F s').length
    · subst hnn
      have e : (F s' ++ [l]).getD (F s').length [] = l := by simp
      rw [e, hh, hm, u1_s]
      refine ⟨rfl, fun j hj => ?_⟩
      have := hv j hj
      rw [Nat.zero_add] at this
      rw [cpy_in hj]
      exact this
    · have hn3 : n < (F s').length := by omega
      have e : (F s' ++ [l]).getD n [] = (F s').getD n [] := by
        rw [List.getD_eq_getElem?_getD, List.getD_eq_getElem?_getD, List.getElem?_append_left hn3]
      obtain ⟨b1, b2⟩ := a2 n hn3
      have b3 := hl s' hs' _ (getD_mem hn3)
      rw [e, hh, hm, u1_n _ _ (by omega)]
      exact ⟨b1, ra_congr b2 (fun j hj => cpy_out (by omega))⟩
  · rw [u1_n _ _ hss, hg, u1_n _ _ hss]
    refine ⟨a1, fun n hn2 => ?_⟩
    obtain ⟨b1, b2⟩ := a2 n hn2
    have b3 := hl s' hs' _ (getD_mem hn2)
    rw [hh, hm]
    rcases (by omega : (s = 0 ∧ s' = 1) ∨ (s = 1 ∧ s' = 0)) with ⟨rfl, rfl⟩ | ⟨rfl, rfl⟩
    · refine ⟨?_, ra_congr b2 (fun j hj => cpy_out (by omega))⟩
      rw [u1_n _ _ (by omega)]
      exact b1
    · refine ⟨?_, ra_congr b2 (fun j hj => cpy_out (by omega))⟩
      rw [u1_n _ _ (by omega)]
      exact b1
/-- the wire takes the draft -/
theorem aiF_19 {P : az_P} (hP : az_ok P) {f : az_f} (hF : aiF P f) {r : Nat} {l : List Int32} (hl : l ∈ f r) : l.length ≤ 19 := by
  have hp := hP.2.1
  have := ((hF.2 r).2 l hl).1
  omega
theorem aiF_f {P : az_P} {f : az_f} (h : aiF P f) (s : Nat) : (f (2 * s)).length ≤ P 2 ∧ (f (2 * s + 1)).length ≤ P 4 := by
  have h1 := (h.2 (2 * s)).1
  have h2 := (h.2 (2 * s + 1)).1
  rw [(rl_e P s).1] at h1
  rw [(rl_e P s).2] at h2
  exact ⟨h1, h2⟩
theorem mo_wk_n {P : az_P} {σ : sw_S} {A : az} (h : mr P σ A) {s : Nat} (hs : s < 2) : mo_wk (nI s) σ = nI (20 * s + (A.2.2 (2 * s + 1)).length) := by
  unfold mo_wk
  rw [mr_25 h hs, show (20 : Int32) = nI 20 from rfl, nI_mul, nI_add]
theorem mD_wi {P : az_P} (hP : az_ok P) {σ : sw_S} {A : az} {l : List Int32} (hF : aiF P A.2.2) (h : mD P σ A l) {s : Nat} (hs : s < 2) (hn : (A.2.2 (2 * s + 1)).length < P 4) : mo_wp 0 (nI s) σ ∧ mr P (mo_wi 0 (nI s) σ) (o_ln s l A) := by
  have hp4 := hP.2.2.2.2.1
  obtain ⟨h1, h2, h3, h4⟩ := h
  have ek := mo_wk_n h1 hs
  obtain ⟨q, hq⟩ : ∃ q, q = 20 * s + (A.2.2 (2 * s + 1)).length := ⟨_, rfl⟩
  rw [← hq] at ek
  refine ⟨⟨vp_in_nI hs (by decide), by rw [ek]; exact vp_in_nI (by omega) (by decide), by rw [h2]; exact nI_pos' (by omega), by rw [h2]; exact nI_le h4 (by decide), fun n hn => ?_⟩, ?_⟩
  · rw [ek, show (19 : Int32) = nI 19 from rfl, nI_mul, nI_add]
    exact vp_in_nI (by omega) (by decide)
  · obtain ⟨t, ht⟩ : ∃ t, t = sw_up σ 15 26 q (nI l.length) := ⟨_, rfl⟩
    obtain ⟨c1, c2, c3⟩ := cp_go 27 q (by decide) (by omega) t l.length h4
    obtain ⟨y, hy⟩ : ∃ y, y = mo_cp 27 (nI q) l.length t := ⟨_, rfl⟩
    rw [← hy] at c1 c2 c3
    have ey : mo_cp 27 (mo_wk (nI s) σ) (σ 8 0 39).toNatClampNeg (mo_w1 0 (nI s) σ) = y := by
      unfold mo_w1
      rw [ek, h2, nI_clamp (by omega), mis_n _ 26 (by omega), hy, ht]
    have e25 : y 15 25 = σ 15 25 := by rw [c2 25 (by decide), ht, up_row _ _ _ _ _ (by decide)]
    have e25' : y 15 25 s = nI (A.2.2 (2 * s + 1)).length := by rw [e25]; exact (h1.2.2.2.2.2.1 s hs).1
    have e2 : mo_w2 (nI s) y = sw_up y 15 25 s (nI ((A.2.2 (2 * s + 1)).length + 1)) := by
      unfold mo_w2
      rw [mis_n _ 25 (by omega), mi_n _ 25 (by omega), e25', nI_1]
    have d1 : mr P (mo_w2 (nI s) y) (af A (2 * s + 1) (A.2.2 (2 * s + 1) ++ [l])) := by
      rw [e2]
      refine mr_f1 h1 ?_ ?_ (fun j j1 j2 j3 => ?_) (mG_app h1.2.2.2.2.2.1 (fun s' hs' => by have := (aiF_f hF s').2; show (A.2.2 (2 * s' + 1)).length ≤ 20; omega) (fun s' hs' l' hl' => aiF_19 hP hF hl') hs (by show (A.2.2 (2 * s + 1)).length < 20; omega) h4 h3 ?_ ?_ ?_)
      · rw [sw_upc _ (by decide), c3 8 (by decide), ht, sw_upc _ (by decide)]
      · rw [sw_upc _ (by decide), c3 16 (by decide), ht, sw_upc _ (by decide)]
      · rw [up_row _ _ _ _ _ j1, c2 j j3, ht, up_row _ _ _ _ _ j2]
      · rw [up_rowS, e25]
      · rw [up_row _ _ _ _ _ (by decide), c2 26 (by decide), ht, up_rowS, hq]
      · rw [up_row _ _ _ _ _ (by decide), c1, ht, up_row _ _ _ _ _ (by decide), up_row _ _ _ _ _ (by decide), hq]
    have hs31 : s < 2 ^ 31 := by omega
    have d2 : mr P (mo_w3 (nI s) (mo_w2 (nI s) y)) (an (af A (2 * s + 1) (A.2.2 (2 * s + 1) ++ [l])) 33 s (A.1 33 s + 1)) := by
      unfold mo_w3
      rw [d1.i 33 rfl hs31]
      exact mr_in d1 rfl hs31 _
    have d3 := mr_bn d2 (j := 32) rfl hs31 0
    unfold mo_wi
    rw [ey]
    have e : o_ln s l A = an (an (af A (2 * s + 1) (A.2.2 (2 * s + 1) ++ [l])) 33 s (A.1 33 s + 1)) 32 s 0 := by
      unfold o_ln
      have e33 : (o_d0 s l A).1 33 s = A.1 33 s := by unfold o_d0; rw [an_n _ (by decide)]; rfl
      rw [e33]
      exact an_cm _ (by decide)
    rw [e]
    exact d3
theorem nbx {P : az_P} (hP : az_ok P) {o m : Nat} (ho : o ≤ P 2) (hm : m ≤ P 2) : (if nI o + nI m ≤ nI (P 2) then nI o + nI m else nI o + nI m - nI (P 2) - 1) = nI (if o + m ≤ P 2 then o + m else o + m - P 2 - 1) := by
  have hp := hP.2.2.1
  rw [nI_add]
  by_cases hc : o + m ≤ P 2
  · rw [if_pos (nI_le hc (by omega)), if_pos hc]
  · rw [if_neg (nI_ge (by omega) (by omega)), if_neg hc, nI_sub (by omega), show (1 : Int32) = nI 1 from rfl, nI_sub (by omega)]
theorem o_nb_e {P : az_P} (hP : az_ok P) {A : az} {s o : Nat} (h1 : A.1 28 s = nI o) (ho : o ≤ P 2) (hm : (A.2.2 (2 * s)).length ≤ P 2) : o_nb P s A = nI (if o + (A.2.2 (2 * s)).length ≤ P 2 then o + (A.2.2 (2 * s)).length else o + (A.2.2 (2 * s)).length - P 2 - 1) := by
  unfold o_nb
  rw [h1]
  exact nbx hP ho hm
/-- the draft is kept until it is told of -/
theorem mD_fa {P : az_P} (hP : az_ok P) {σ : sw_S} {A : az} {l : List Int32} {s : Nat} (hF : aiF P A.2.2) (h28 : ∃ o : Nat, A.1 28 s = nI o ∧ o ≤ P 2) (h : mD P σ A l) (hs : s < 2) (h1l : 1 ≤ l.length) (hk : ¬ l.getD 0 0 &&& 7 = 0) (hn : (A.2.2 (2 * s)).length < P 2) : (vp_in (mo_fq (nI s) σ) 30 ∧ (∀ n, n < 19 → vp_in (19 * mo_fq (nI s) σ + nI n) 570) ∧ ¬ σ 8 0 2 + 1 = 0 ∧ 0 ≤ σ 8 0 39 ∧ σ 8 0 39 ≤ 19) ∧ mD P (mo_fa 0 (nI s) σ) (af A (2 * s) (A.2.2 (2 * s) ++ [l])) l := by
  have hp2 := hP.2.2.1
  have hh := h
  obtain ⟨h1, h2, h3, h4⟩ := h
  obtain ⟨o, eo, ho⟩ := h28
  have e22 := mr_22 h1 hs
  obtain ⟨q, hq⟩ : ∃ q, q = 15 * s + (A.2.2 (2 * s)).length := ⟨_, rfl⟩
  have ek : mo_fq (nI s) σ = nI q := by
    unfold mo_fq
    rw [e22, show (15 : Int32) = nI 15 from rfl, nI_mul, nI_add, hq]
  refine ⟨⟨by rw [ek]; exact vp_in_nI (by omega) (by decide), fun n hn => ?_, ?_, by rw [h2]; exact nI_pos' (by omega), by rw [h2]; exact nI_le h4 (by decide)⟩, ?_⟩
  · rw [ek, show (19 : Int32) = nI 19 from rfl, nI_mul, nI_add]
    exact vp_in_nI (by omega) (by decide)
  · rw [h1.1 2 (by decide), nI_1]
    exact nI_ne0 (by omega) (by omega)
  · have e0 : mi σ 38 0 = l.getD 0 0 := by
      have := mD_at hh (j := 0) (by omega)
      rw [nI_0] at this
      exact this
    unfold mo_fa
    rw [e0, if_neg hk]
    obtain ⟨t, ht⟩ : ∃ t, t = sw_up σ 15 23 q (nI l.length) := ⟨_, rfl⟩
    obtain ⟨c1, c2, c3⟩ := cp_go 24 q (by decide) (by omega) t l.length h4
    obtain ⟨y, hy⟩ : ∃ y, y = mo_cp 24 (nI q) l.length t := ⟨_, rfl⟩
    rw [← hy] at c1 c2 c3
    have ey : mo_f3 0 (nI s) σ = y := by
      unfold mo_f3
      rw [ek, h2, nI_clamp (by omega), mis_n _ 23 (by omega), hy, ht]
    have e22b : y 15 22 = σ 15 22 := by rw [c2 22 (by decide), ht, up_row _ _ _ _ _ (by decide)]
    have e22c : y 15 22 s = nI (A.2.2 (2 * s)).length := by rw [e22b]; exact (h1.2.2.2.2.1 s hs).1
    have e28b : y 15 28 = σ 15 28 := by rw [c2 28 (by decide), ht, up_row _ _ _ _ _ (by decide)]
    have e8 : y 8 = σ 8 := by rw [c3 8 (by decide), ht, sw_upc _ (by decide)]
    have e16 : y 16 = σ 16 := by rw [c3 16 (by decide), ht, sw_upc _ (by decide)]
    obtain ⟨n, hnn⟩ : ∃ n, n = (if o + (A.2.2 (2 * s)).length ≤ P 2 then o + (A.2.2 (2 * s)).length else o + (A.2.2 (2 * s)).length - P 2 - 1) := ⟨_, rfl⟩
    have hnb := o_nb_e hP eo ho (by omega)
    rw [← hnn] at hnb
    have hnle : n ≤ P 2 := by rw [hnn]; split <;> omega
    have e4 : mo_f5 0 (nI s) (mo_f4 (nI s) y) = sw_up (sw_up y 15 22 s (nI ((A.2.2 (2 * s)).length + 1))) 15 28 s (nI ((n + 1) % (P 2 + 1))) := by
      unfold mo_f5 mo_f4
      rw [mis_n _ 22 (by omega), mi_n _ 22 (by omega), e22c, nI_1, mis_n _ 28 (by omega), mi_n _ 28 (by omega), up_row _ _ _ _ _ (by decide : ¬ 28 = 22), sw_upc _ (by decide : ¬ 8 = 15), e8, h1.1 2 (by decide), e28b, h1.2.2.2.2.2.2.1 s hs, hnb, nI_1, nI_1, nI_rem (by omega) (by omega)]
    rw [ey, e4]
    have hA : af A (2 * s) (A.2.2 (2 * s) ++ [l]) = an (af A (2 * s) (A.2.2 (2 * s) ++ [l])) 28 s (A.1 28 s) := (an_sf _ rfl).symm
    refine ⟨?_, ?_, ?_, h4⟩
    · rw [hA]
      refine mr_f0 h1 ?_ ?_ (fun j j1 j2 j3 j4 => ?_) (mG_app h1.2.2.2.2.1 (fun s' hs' => by have := (aiF_f hF s').1; show (A.2.2 (2 * s')).length ≤ 15; omega) (fun s' hs' l' hl' => aiF_19 hP hF hl') hs (by show (A.2.2 (2 * s)).length < 15; omega) h4 h3 ?_ ?_ ?_) (fun s' hs' => ?_)
      · rw [sw_upc _ (by decide), sw_upc _ (by decide), e8]
      · rw [sw_upc _ (by decide), sw_upc _ (by decide), e16]
      · rw [up_row _ _ _ _ _ j4, up_row _ _ _ _ _ j1, c2 j j3, ht, up_row _ _ _ _ _ j2]
      · rw [up_row _ _ _ _ _ (by decide), up_rowS, e22b]
      · rw [up_row _ _ _ _ _ (by decide), up_row _ _ _ _ _ (by decide), c2 23 (by decide), ht, up_rowS, hq]
      · rw [up_row _ _ _ _ _ (by decide), up_row _ _ _ _ _ (by decide), c1, ht, up_row _ _ _ _ _ (by decide), up_row _ _ _ _ _ (by decide), hq]
      · rw [up_rowS, ← hA]
        by_cases hss : s' = s
        · subst hss
          have hlen : ((af A (2 * s') (A.2.2 (2 * s') ++ [l])).2.2 (2 * s')).length = (A.2.2 (2 * s')).length + 1 := by
            show (u1 A.2.2 (2 * s') (A.2.2 (2 * s') ++ [l]) (2 * s')).length = _
            rw [u1_s, List.length_append, List.length_singleton]
          rw [u1_s, o_nb_e hP (A := af A (2 * s') (A.2.2 (2 * s') ++ [l])) eo ho (by rw [hlen]; omega), hlen]
          congr 1
          by_cases ca : o + (A.2.2 (2 * s')).length < P 2
          · rw [if_pos (by omega)] at hnn
            rw [if_pos (by omega), Nat.mod_eq_of_lt (by omega)]
            omega
          · by_cases cb : o + (A.2.2 (2 * s')).length = P 2
            · rw [if_pos (by omega)] at hnn
              rw [if_neg (by omega), show n + 1 = P 2 + 1 by omega, Nat.mod_self]
              omega
            · rw [if_neg (by omega)] at hnn
              rw [if_neg (by omega), Nat.mod_eq_of_lt (by omega)]
              omega
        · rw [u1_n _ _ hss, up_row _ _ _ _ _ (by decide), e28b, h1.2.2.2.2.2.2.1 s' hs']
          unfold o_nb
          have e : (af A (2 * s) (A.2.2 (2 * s) ++ [l])).2.2 (2 * s') = A.2.2 (2 * s') := u1_n _ _ (by omega)
          rw [e]
          rfl
    · rw [sw_upc _ (by decide), sw_upc _ (by decide), e8, h2]
    · rw [up_row _ _ _ _ _ (by decide), up_row _ _ _ _ _ (by decide), c2 38 (by decide), ht, up_row _ _ _ _ _ (by decide)]
      exact h3
theorem fin_go {P : az_P} (hP : az_ok P) {σ : sw_S} {A : az} {l : List Int32} {s : Nat} (hF : aiF P A.2.2) (h28 : ∃ o : Nat, A.1 28 s = nI o ∧ o ≤ P 2) (h : mD P σ A l) (hs : s < 2) (h1l : 1 ≤ l.length) (hl : l.length < P 1 + 3) (hk : ¬ l.getD 0 0 &&& 7 = 0) (hc : ¬ l.getD 0 0 &&& 7 = 1 → sw_ushr (l.getD 0 0) 24 = 0) (hn : (A.2.2 (2 * s)).length < P 2) (hw : (A.2.2 (2 * s + 1)).length < P 4) : (gX8_finish (lz P) 0 (nI s) σ).1 ∧ mr P (mo_fi 0 (nI s) σ) (o_nm s l A) := by
  have hp1 := hP.2.1
  have d1 := mD_fs h (by omega)
  have e0 : (o_seal l).getD 0 0 = l.getD 0 0 := by
    rw [← la_0 (l := o_seal l) (by rw [o_seal_len]; omega) (by rw [o_seal_len]; omega)]
    exact o_seal_0 h1l (by omega)
  obtain ⟨f1, f2⟩ := mD_fa hP hF h28 d1 hs (by rw [o_seal_len]; omega) (by rw [e0]; exact hk) hn
  have hF2 : aiF P (af A (2 * s) (A.2.2 (2 * s) ++ [o_seal l])).2.2 := aiF_add hF (by omega) (by rw [(rl_e P s).1]; exact hn) ⟨by rw [o_seal_len]; omega, fun _ => by rw [la_0 (by rw [o_seal_len]; omega) (by rw [o_seal_len]; omega), e0]; exact hc⟩
  have hw2 : ((af A (2 * s) (A.2.2 (2 * s) ++ [o_seal l])).2.2 (2 * s + 1)).length < P 4 := by
    show (u1 A.2.2 (2 * s) _ (2 * s + 1)).length < P 4
    rw [u1_n _ _ (by omega)]
    exact hw
  obtain ⟨g1, g2⟩ := mD_wi hP hF2 f2 hs hw2
  refine ⟨⟨lz_mo P, vp_in_nI hs (by decide), by rw [h.2.1]; exact nI_pos' (by omega), by rw [h.2.1]; exact nI_le (b := 18) (by omega) (by decide), fun _ => f1, g1⟩, g2⟩
theorem fin_ack {P : az_P} (hP : az_ok P) {σ : sw_S} {A : az} {l : List Int32} {s : Nat} (hF : aiF P A.2.2) (h : mD P σ A l) (hs : s < 2) (h1l : 1 ≤ l.length) (hl : l.length < 19) (hk : l.getD 0 0 &&& 7 = 0) (hw : (A.2.2 (2 * s + 1)).length < P 4) : (gX8_finish (lz P) 0 (nI s) σ).1 ∧ mr P (mo_fi 0 (nI s) σ) (o_ln s (o_seal l) A) := by
  have d1 := mD_fs h hl
  have e0 : (o_seal l).getD 0 0 = l.getD 0 0 := by
    rw [← la_0 (l := o_seal l) (by rw [o_seal_len]; omega) (by rw [o_seal_len]; omega)]
    exact o_seal_0 h1l (by omega)
  have e38 : mi (mo_fs 0 σ) 38 0 &&& 7 = 0 := by
    have := mD_at d1 (j := 0) (by rw [o_seal_len]; omega)
    rw [nI_0, e0] at this
    rw [this]
    exact hk
  have efa : mo_fa 0 (nI s) (mo_fs 0 σ) = mo_fs 0 σ := if_pos e38
  obtain ⟨g1, g2⟩ := mD_wi hP hF d1 hs hw
  unfold mo_fi
  rw [efa]
  refine ⟨⟨lz_mo P, vp_in_nI hs (by decide), by rw [h.2.1]; exact nI_pos' (by omega), by rw [h.2.1]; exact nI_le (b := 18) (by omega) (by decide), fun z => absurd e38 z, by rw [efa]; exact g1⟩, g2⟩
