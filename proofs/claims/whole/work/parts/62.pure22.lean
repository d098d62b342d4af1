/-! The pure part: the model's deliver -/
theorem mD_la {P : az_P} {σ : sw_S} {A : az} {l : List Int32} (h : mD P σ A l) {j : Nat} (hj : j < l.length) : mi σ 38 (nI j) = la l (nI j) := by
  have := h.2.2.2
  rw [mD_at h hj, la_nI (by omega) hj]
theorem wms_01 (w : Int32 → Int32) : ∀ d j : Nat, wms w d j = 0 ∨ wms w d j = 1
  | 0, _ => Or.inr rfl
  | d + 1, j => by
    show (if wmk w (nI j) = 0 then wms w d (j + 1) else if w (2 + nI j) = 0 then wms w d (j + 1) else 0) = 0 ∨ (if wmk w (nI j) = 0 then wms w d (j + 1) else if w (2 + nI j) = 0 then wms w d (j + 1) else 0) = 1
    split
    · exact wms_01 w d (j + 1)
    · split
      · exact wms_01 w d (j + 1)
      · exact Or.inl rfl
theorem mvl_0 (σ : sw_S) (d j : Nat) : mv_l σ d j 0 = 0 := by
  cases d with
  | zero => rfl
  | succ d => exact if_pos rfl
theorem mvl_go {P : az_P} {σ : sw_S} {A : az} {l : List Int32} (h : mD P σ A l) {n : Nat} (hn : n + 3 = l.length) : ∀ d j : Nat, j + d = n → mv_l σ d j 1 = wms (la l) d j
  | 0, _, _ => rfl
  | d + 1, j, hj => by
    have hl := h.2.2.2
    have e1 : mi σ 38 1 = la l 1 := mD_la h (j := 1) (by omega)
    have e2 : mi σ 38 (2 + nI j) = la l (2 + nI j) := by
      rw [show (2 : Int32) = nI 2 from rfl, nI_add]
      exact mD_la h (by omega)
    show (if (1 : Int32) = 0 then 0 else mv_l σ d (j + 1) (mv_i σ j)) = (if wmk (la l) (nI j) = 0 then wms (la l) d (j + 1) else if la l (2 + nI j) = 0 then wms (la l) d (j + 1) else 0)
    rw [if_neg (by decide)]
    unfold mv_i wmk
    rw [e1, e2, b_sr (by omega)]
    rcases b_and1 (sw_ushr (la l 1) (nI j)) with ⟨z, -⟩ | ⟨z, -⟩
    · rw [z, if_neg (by decide : ¬ (1 : Int32) = 0), if_pos (rfl : (1 : Int32) = 1), if_neg (by decide : ¬ (1 : Int32) = 0)]
      by_cases c : la l (2 + nI j) = 0
      · rw [if_pos c, if_pos c]
        exact mvl_go h hn d (j + 1) (by omega)
      · rw [if_neg c, if_neg c, mvl_0]
    · rw [z, if_pos (rfl : (0 : Int32) = 0), if_neg (by decide : ¬ (0 : Int32) = 1), if_pos (rfl : (0 : Int32) = 0)]
      exact mvl_go h hn d (j + 1) (by omega)
theorem vf_go {P : az_P} (hP : az_ok P) {σ : sw_S} {A : az} {l : List Int32} (h : mD P σ A l) (h2 : 2 ≤ l.length) : mv_f 0 σ = o_so P l := by
  have hl := h.2.2.2
  have e0 : mi σ 38 0 = la l 0 := mD_la h (j := 0) (by omega)
  have e1 : mi σ 38 1 = la l 1 := mD_la h (j := 1) (by omega)
  have e39 : σ 8 0 39 - 1 = nI (l.length - 1) := by rw [h.2.1, show (1 : Int32) = nI 1 from rfl, nI_sub (by omega)]
  have el1 : nI l.length - 1 = nI (l.length - 1) := by rw [show (1 : Int32) = nI 1 from rfl, nI_sub (by omega)]
  have es : mi σ 38 (nI (l.length - 1)) = la l (nI (l.length - 1)) := mD_la h (by omega)
  have esm : sm (mi σ 38) (l.length - 1) = sm (la l) (l.length - 1) := mD_sm h (by omega)
  obtain ⟨k, hk, ek⟩ := i32_7 (la l 0)
  obtain ⟨n, hn, en⟩ := sw_ushr24 (la l 0)
  have ekd : mo_kd σ = wkd (la l) := by
    show mi σ 38 0 &&& 7 = _
    rw [e0]
  have esn : mo_sn σ = wsn (la l) := by
    show sw_ushr (mi σ 38 0) 3 &&& 31 = _
    rw [e0]
  have ect : mo_ct σ = wct (la l) := by
    show sw_ushr (mi σ 38 0) 24 = _
    rw [e0]
  have enu : mv_nu σ = wnu (la l) := by
    show sw_ushr (mi σ 38 0) 8 &&& 255 = _
    rw [e0]
  have ewa : mv_wa σ = wwa (la l) := by
    show sw_ushr (mi σ 38 0) 16 &&& 255 = _
    rw [e0]
  have ek : wkd (la l) = nI k := ek
  have en : wct (la l) = nI n := en
  have ack := b_ack (la l 0)
  have eg : mv_g 0 σ = if 4 < wkd (la l) then 0 else if nI l.length = wlt (la l) then (if la l (nI (l.length - 1)) = sm (la l) (l.length - 1) then (if nI (P 0) ≤ wsn (la l) then 0 else if nI (P 2) < wnu (la l) then 0 else if nI (P 2) < wwa (la l) then 0 else 1) else 0) else 0 := by
    unfold mv_g mv_wt wlt
    rw [ekd, esn, ect, enu, ewa, e39, nI_clamp (by omega), es, esm, h.2.1, h.1.1 0 (by decide), h.1.1 2 (by decide)]
  have e2' : mv_2 0 σ = if wct (la l) < 1 then 0 else if nI (P 1) < wct (la l) then 0 else if sw_ushr (la l 1) (wct (la l)) = 0 then 1 else 0 := by
    unfold mv_2
    rw [ect, e1, h.1.1 1 (by decide)]
  have ekk : mv_k σ = if wkd (la l) = 0 then (if la l 0 &&& 65528 = 0 then 1 else 0) else if wkd (la l) = 2 then (if la l 1 ≤ 0 then 0 else 1) else 1 := by
    unfold mv_k
    rw [ekd, e0, e1]
  have ef : mv_f 0 σ = if mv_g 0 σ = 0 then 0 else if wkd (la l) = 1 then mv_l σ (wct (la l)).toNatClampNeg 0 (mv_2 0 σ) else if wct (la l) = 0 then mv_k σ else 0 := by
    unfold mv_f
    rw [ekd, ect]
  rw [ef, eg, e2', ekk]
  unfold o_so
  rw [el1, nI_clamp (by omega)]
  have h00 : ∀ x : Int32, (if (0 : Int32) = 0 then (0 : Int32) else x) = 0 := fun x => if_pos rfl
  by_cases a1 : nI l.length = wlt (la l)
  · rw [if_pos a1, if_pos a1]
    by_cases a2 : la l (nI (l.length - 1)) = sm (la l) (l.length - 1)
    · rw [if_pos a2, if_pos a2]
      by_cases a3 : nI (P 0) ≤ wsn (la l)
      · rw [if_pos a3, if_pos a3, ite_self, h00]
      · rw [if_neg a3, if_neg a3]
        by_cases a4 : nI (P 2) < wnu (la l)
        · rw [if_pos a4, if_pos a4, ite_self, h00]
        · rw [if_neg a4, if_neg a4]
          by_cases a5 : nI (P 2) < wwa (la l)
          · rw [if_pos a5, if_pos a5, ite_self, h00]
          · rw [if_neg a5, if_neg a5]
            unfold wsk
            unfold wlt at a1
            rw [ek] at a1 ⊢
            rcases (by omega : k = 0 ∨ k = 1 ∨ k = 2 ∨ k = 3 ∨ k = 4 ∨ k = 5 ∨ k = 6 ∨ k = 7) with rfl | rfl | rfl | rfl | rfl | rfl | rfl | rfl
            · rw [if_neg (by decide : ¬ (4 : Int32) < nI 0), if_neg (by decide : ¬ (1 : Int32) = 0), if_neg (by decide : ¬ nI 0 = 1), if_pos (by decide : nI 0 = 0), if_pos (by decide : nI 0 = 0)]
              by_cases b1 : wsn (la l) = 0
              · rw [if_pos b1]
                by_cases b2 : wnu (la l) = 0
                · rw [if_pos b2, if_pos (ack.mpr ⟨b1, b2⟩)]
                  by_cases b3 : wct (la l) = 0
                  · rw [if_pos b3, if_neg (by decide : ¬ (1 : Int32) = 0)]
                  · rw [if_neg b3, h00]
                · rw [if_neg b2, if_neg (fun z => b2 (ack.mp z).2), h00, ite_self]
              · rw [if_neg b1, if_neg (fun z => b1 (ack.mp z).1), h00, ite_self]
            · rw [if_neg (by decide : ¬ (4 : Int32) < nI 1), if_neg (by decide : ¬ (1 : Int32) = 0), if_pos (by decide : nI 1 = 1), if_neg (by decide : ¬ nI 1 = 0), if_pos (by decide : nI 1 = 1)]
              rw [if_pos (by decide : nI 1 = 1), en, show (3 : Int32) = nI 3 from rfl, nI_add] at a1
              have hln := nI_inj (by omega) (by omega) a1
              unfold wam
              rw [en, nI_clamp (by omega)]
              by_cases b1 : nI n < 1
              · rw [if_pos b1, if_pos b1, mvl_0, h00]
              · rw [if_neg b1, if_neg b1]
                by_cases b2 : nI (P 1) < nI n
                · rw [if_pos b2, if_pos b2, mvl_0, h00]
                · rw [if_neg b2, if_neg b2]
                  by_cases b3 : sw_ushr (la l 1) (nI n) = 0
                  · rw [if_pos b3, if_pos b3, mvl_go h (n := n) (by omega) n 0 (by omega)]
                    rcases wms_01 (la l) n 0 with z | z
                    · rw [z, h00, h00]
                    · rw [z, if_neg (by decide : ¬ (1 : Int32) = 0), if_neg (by decide : ¬ (1 : Int32) = 0)]
                  · rw [if_neg b3, if_neg b3, mvl_0, h00, h00]
            · rw [if_neg (by decide : ¬ (4 : Int32) < nI 2), if_neg (by decide : ¬ (1 : Int32) = 0), if_neg (by decide : ¬ nI 2 = 1), if_neg (by decide : ¬ nI 2 = 0), if_pos (by decide : nI 2 = 2), if_neg (by decide : ¬ nI 2 = 0), if_neg (by decide : ¬ nI 2 = 1), if_pos (by decide : nI 2 = 2)]
              by_cases b3 : wct (la l) = 0
              · rw [if_pos b3]
                by_cases b4 : la l 1 ≤ 0
                · rw [if_pos b4, h00]
                · rw [if_neg b4, if_neg (by decide : ¬ (1 : Int32) = 0)]
              · rw [if_neg b3, h00]
            · rw [if_neg (by decide : ¬ (4 : Int32) < nI 3), if_neg (by decide : ¬ (1 : Int32) = 0), if_neg (by decide : ¬ nI 3 = 1), if_neg (by decide : ¬ nI 3 = 0), if_neg (by decide : ¬ nI 3 = 2), if_neg (by decide : ¬ nI 3 = 0), if_neg (by decide : ¬ nI 3 = 1), if_neg (by decide : ¬ nI 3 = 2), if_pos (by decide : nI 3 = 3)]
              by_cases b3 : wct (la l) = 0
              · rw [if_pos b3, if_neg (by decide : ¬ (1 : Int32) = 0)]
              · rw [if_neg b3, h00]
            · rw [if_neg (by decide : ¬ (4 : Int32) < nI 4), if_neg (by decide : ¬ (1 : Int32) = 0), if_neg (by decide : ¬ nI 4 = 1), if_neg (by decide : ¬ nI 4 = 0), if_neg (by decide : ¬ nI 4 = 2), if_neg (by decide : ¬ nI 4 = 0), if_neg (by decide : ¬ nI 4 = 1), if_neg (by decide : ¬ nI 4 = 2), if_neg (by decide : ¬ nI 4 = 3), if_pos (by decide : nI 4 = 4)]
              by_cases b3 : wct (la l) = 0
              · rw [if_pos b3, if_neg (by decide : ¬ (1 : Int32) = 0)]
              · rw [if_neg b3, h00]
            · rw [if_pos (by decide : (4 : Int32) < nI 5), h00, if_neg (by decide : ¬ nI 5 = 0), if_neg (by decide : ¬ nI 5 = 1), if_neg (by decide : ¬ nI 5 = 2), if_neg (by decide : ¬ nI 5 = 3), if_neg (by decide : ¬ nI 5 = 4), h00]
            · rw [if_pos (by decide : (4 : Int32) < nI 6), h00, if_neg (by decide : ¬ nI 6 = 0), if_neg (by decide : ¬ nI 6 = 1), if_neg (by decide : ¬ nI 6 = 2), if_neg (by decide : ¬ nI 6 = 3), if_neg (by decide : ¬ nI 6 = 4), h00]
            · rw [if_pos (by decide : (4 : Int32) < nI 7), h00, if_neg (by decide : ¬ nI 7 = 0), if_neg (by decide : ¬ nI 7 = 1), if_neg (by decide : ¬ nI 7 = 2), if_neg (by decide : ¬ nI 7 = 3), if_neg (by decide : ¬ nI 7 = 4), h00]
    · rw [if_neg a2, if_neg a2, ite_self, h00]
  · rw [if_neg a1, if_neg a1, ite_self, h00]
/-! telling of what came -/
theorem se_mo {P : az_P} (hP : az_ok P) {σ : sw_S} {A : az} {l : List Int32} (hai : ai P A) (h : mD P σ A l) {u v : Nat} (hu : u < 2) (hv : v ≤ P 2) : mo_cfp 0 (nI u) (nI v) σ ∧ mD P (mo_cf 0 (nI u) (nI v) σ) (o_se P u (nI v) A) l := by
  have hp2 := hP.2.2.1
  have hf := (ai_f hai u).1
  have hmr := h.1
  obtain ⟨o, e1, e2⟩ := hai.v 28 u
  obtain ⟨c, c1, c2, c3⟩ := o_sb_of hP e2 hv
  have e22 := mr_22 hmr hu
  have ecn : mo_cn 0 (nI u) (nI v) σ = nI c := by
    unfold mo_cn
    rw [mr_ol hP hai hmr hu, e1, hmr.1 2 (by decide), nI_add, nI_1, nI_1, nI_sub (by omega), nI_rem (by omega) (by omega)]
    congr 1
    rw [c3]
    by_cases q : v < o
    · rw [if_pos q, Nat.mod_eq_of_lt (by omega)]
    · rw [if_neg q, show v + P 2 + 1 - o = v - o + (P 2 + 1) by omega, Nat.add_mod_right, Nat.mod_eq_of_lt (by omega)]
  have hcl : (mo_cn 0 (nI u) (nI v) σ ≤ mi σ 22 (nI u)) ↔ c ≤ (A.2.2 (2 * u)).length := by
    rw [ecn, e22, nI_leI (by omega) (by omega)]
  refine ⟨⟨?_, u, hu, rfl, fun hc => ?_⟩, ?_⟩
  · rw [hmr.1 2 (by decide), nI_1]
    exact nI_ne0 (by omega) (by omega)
  · have hc := hcl.mp hc
    exact ⟨c, (A.2.2 (2 * u)).length - c, by omega, ecn, by rw [ecn, e22, nI_sub hc]⟩
  · unfold mo_cf o_se
    rw [e1, c1, nI_clamp (n := c) (by omega)]
    by_cases hc : c ≤ (A.2.2 (2 * u)).length
    · rw [if_pos (hcl.mpr hc), if_pos (nI_le hc (by omega)), nI_clamp (n := u) (by omega)]
      unfold mo_c1
      rw [ecn, e22, nI_sub hc, nI_clamp (by omega), mis_n _ 22 (by omega)]
      obtain ⟨i1, i2, i3, i4⟩ := dm_go 23 24 (by decide) (15 * u) c (by omega) (by omega) (sw_up σ 15 22 u (nI ((A.2.2 (2 * u)).length - c))) ((A.2.2 (2 * u)).length - c) (by omega)
      obtain ⟨z, hz⟩ : ∃ z, z = mo_dm 23 24 (15 * u) (nI c) ((A.2.2 (2 * u)).length - c) (sw_up σ 15 22 u (nI ((A.2.2 (2 * u)).length - c))) := ⟨_, rfl⟩
      rw [← hz] at i1 i2 i3 i4 ⊢
      refine ⟨mr_f0 hmr ?_ ?_ (fun j j1 j2 j3 j4 => ?_) (mG_drop hmr.2.2.2.2.1 (fun s' hs' => by have := (ai_f hai s').1; show (A.2.2 (2 * s')).length ≤ 15; omega) (fun s' hs' l' hl' => (ai_l19 hP hai hl').2) hu hc ?_ ?_ ?_) (fun s' hs' => ?_), ?_, ?_, h.2.2.2⟩
      · rw [i4 8 (by decide), sw_upc _ (by decide)]
      · rw [i4 16 (by decide), sw_upc _ (by decide)]
      · rw [i3 j j2 j3, up_row _ _ _ _ _ j1]
      · rw [i3 22 (by decide) (by decide), up_rowS]
      · rw [i1, up_row _ _ _ _ _ (by decide)]
      · rw [i2, up_row _ _ _ _ _ (by decide)]
      · rw [i3 28 (by decide) (by decide), up_row _ _ _ _ _ (by decide), hmr.2.2.2.2.2.2.1 s' hs']
        by_cases hss : s' = u
        · subst hss
          have hlen : ((an (af A (2 * s') ((A.2.2 (2 * s')).drop c)) 28 s' (nI v)).2.2 (2 * s')).length = (A.2.2 (2 * s')).length - c := by
            show (u1 A.2.2 (2 * s') ((A.2.2 (2 * s')).drop c) (2 * s')).length = _
            rw [u1_s, List.length_drop]
          rw [o_nb_e hP e1 e2 (by omega), o_nb_e hP (A := an (af A (2 * s') ((A.2.2 (2 * s')).drop c)) 28 s' (nI v)) (s := s') (o := v) (u2_s _ _ _ _) hv (by rw [hlen]; omega), hlen]
          congr 1
          by_cases q : v < o
          · rw [if_pos q] at c3
            rw [if_neg (by omega), if_pos (by omega)]
            omega
          · rw [if_neg q] at c3
            by_cases q2 : o + (A.2.2 (2 * s')).length ≤ P 2
            · rw [if_pos q2, if_pos (by omega)]
              omega
            · rw [if_neg q2, if_neg (by omega)]
              omega
        · have e : (an (af A (2 * u) ((A.2.2 (2 * u)).drop c)) 28 u (nI v)).2.2 (2 * s') = A.2.2 (2 * s') := u1_n _ _ (by omega)
          have e' : (an (af A (2 * u) ((A.2.2 (2 * u)).drop c)) 28 u (nI v)).1 28 s' = A.1 28 s' := u2_n _ _ (fun z => hss z.2)
          unfold o_nb
          rw [e, e']
      · rw [i4 8 (by decide), sw_upc _ (by decide)]
        exact h.2.1
      · rw [i3 38 (by decide) (by decide), up_row _ _ _ _ _ (by decide)]
        exact h.2.2.1
    · rw [if_neg (fun z => hc (hcl.mp z)), if_neg (nI_ge (by omega) (by omega))]
      exact h
