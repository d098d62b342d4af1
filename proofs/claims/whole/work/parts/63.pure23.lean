/-! The pure part: the model's deliver, on -/
theorem ai_se {P : az_P} {A : az} (hai : ai P A) (u : Nat) {v : Nat} (hv : v ≤ P 2) : ai P (o_se P u (nI v) A) := by
  unfold o_se
  split
  · have : ai P (af A (2 * u) ((A.2.2 (2 * u)).drop (o_sb P (A.1 28 u) (nI v)).toNatClampNeg)) := ai_af hai (aiF_drop hai.2.2.2 _ _)
    exact ai_an this ⟨v, rfl, hv⟩
  · exact hai
theorem ca_go {P : az_P} (hP : az_ok P) {σ : sw_S} {A : az} {l : List Int32} (h : mD P σ A l) (h2 : 2 ≤ l.length) {x : Nat} (hx : x < 16) (hk : wkd (la l) = 1 ∨ wkd (la l) = 2 ∨ wkd (la l) = 3 ∨ wkd (la l) = 4) : mo_ca 0 (nI x) σ = o_ca P x (la l) A := by
  have hx31 : x < 2 ^ 31 := by omega
  have e0 : mi σ 38 0 = la l 0 := mD_la h (j := 0) (by omega)
  have e1 : mi σ 38 1 = la l 1 := mD_la h (j := 1) (by omega)
  have ekd : mo_kd σ = wkd (la l) := by
    show mi σ 38 0 &&& 7 = _
    rw [e0]
  have ect : mo_ct σ = wct (la l) := by
    show sw_ushr (mi σ 38 0) 24 = _
    rw [e0]
  have hm := h.1
  unfold mo_ca mo_cb o_ca o_cb
  rw [ekd, ect, e1, hm.i 6 rfl hx31, hm.b 7 rfl hx31, hm.b 13 rfl hx31, hm.i 8 rfl hx31, hm.i 9 rfl hx31, mr_19 hm hx, hm.1 5 (by decide)]
  rcases hk with k | k | k | k
  · rw [if_pos k, if_pos k]
    by_cases c1 : A.1 6 x = 0
    · rw [if_pos c1, if_pos c1, if_pos rfl]
    · rw [if_neg c1, if_neg c1]
      by_cases c2 : A.1 7 x = 0
      · rw [if_pos c2, if_pos c2, if_neg (by decide : ¬ (1 : Int32) = 0)]
      · rw [if_neg c2, if_neg c2, if_pos rfl]
  · have k1 : ¬ wkd (la l) = 1 := by rw [k]; decide
    rw [if_neg k1, if_pos k, if_neg k1, if_pos k]
  · have k1 : ¬ wkd (la l) = 1 := by rw [k]; decide
    have k2 : ¬ wkd (la l) = 2 := by rw [k]; decide
    rw [if_neg k1, if_neg k2, if_pos k, if_neg k1, if_neg k2, if_pos k]
  · have k1 : ¬ wkd (la l) = 1 := by rw [k]; decide
    have k2 : ¬ wkd (la l) = 2 := by rw [k]; decide
    have k3 : ¬ wkd (la l) = 3 := by rw [k]; decide
    rw [if_neg k1, if_neg k2, if_neg k3, if_pos k, if_neg k1, if_neg k2, if_neg k3, if_pos k]
theorem tl_go {P : az_P} (hP : az_ok P) {σ : sw_S} {A : az} {l : List Int32} (hai : ai P A) (h : mD P σ A l) {x n : Nat} (hx : x < 16) (hn : n + 3 = l.length) (hN : (A.2.1 1 x).length + n ≤ P 5) : ∀ j : Nat, j ≤ n → mD P (mo_tl (nI x) j σ) (aq A 1 x (A.2.1 1 x ++ o_items (la l) j)) l
  | 0, _ => by
    have e : aq A 1 x (A.2.1 1 x ++ o_items (la l) 0) = A := by
      show aq A 1 x (A.2.1 1 x ++ []) = A
      rw [List.append_nil]
      unfold aq
      rw [u2_self]
    rw [e]
    exact h
  | j + 1, hj => by
    have hp5 := hP.2.2.2.2.2
    have hl19 := h.2.2.2
    have ih := tl_go hP hai h hx hn hN j (by omega)
    obtain ⟨B, hB⟩ : ∃ B, B = aq A 1 x (A.2.1 1 x ++ o_items (la l) j) := ⟨_, rfl⟩
    rw [← hB] at ih
    obtain ⟨a, ha⟩ : ∃ a, a = mo_tl (nI x) j σ := ⟨_, rfl⟩
    rw [← ha] at ih
    have hB1 : B.2.1 1 x = A.2.1 1 x ++ o_items (la l) j := by rw [hB]; exact u2_s _ _ _ _
    have hlen : (B.2.1 1 x).length = (A.2.1 1 x).length + j := by rw [hB1, List.length_append, o_items_len]
    have hall : ∀ x', (B.2.1 1 x').length ≤ 400 := fun x' => by
      by_cases hx' : x' = x
      · rw [hx', hlen]
        omega
      · rw [hB]
        show (u2 A.2.1 1 x (A.2.1 1 x ++ o_items (la l) j) 1 x').length ≤ 400
        rw [u2_n _ _ (fun z => hx' z.2)]
        have := ai_q1 hP hai x'
        omega
    have e19 : a 15 19 x = nI (B.2.1 1 x).length := (ih.1.2.2.2.1 x hx).1
    have e1 : mi a 38 1 = la l 1 := mD_la ih (j := 1) (by omega)
    have e2 : mi a 38 (2 + nI j) = la l (2 + nI j) := by
      rw [show (2 : Int32) = nI 2 from rfl, nI_add]
      exact mD_la ih (by omega)
    obtain ⟨p, hp⟩ : ∃ p, p = 400 * x + (B.2.1 1 x).length := ⟨_, rfl⟩
    have ep : ∀ b : sw_S, b 15 19 = a 15 19 → 400 * nI x + mi b 19 (nI x) = nI p := fun b hb => by
      rw [mi_n _ 19 (by omega), hb, e19, show (400 : Int32) = nI 400 from rfl, nI_mul, nI_add, hp]
    have et : ∀ b : sw_S, b 15 38 = a 15 38 → mo_tm j b = wmk (la l) (nI j) := fun b hb => by
      have e1b : mi b 38 1 = la l 1 := by
        rw [← e1]
        show b 15 38 _ = a 15 38 _
        rw [hb]
      unfold mo_tm wmk
      rw [e1b, b_sr (by omega)]
    have e : mo_tl (nI x) (j + 1) σ = sw_up (sw_up (sw_up a 15 20 p (la l (2 + nI j))) 16 21 p (wmk (la l) (nI j))) 15 19 x (nI ((B.2.1 1 x).length + 1)) := by
      show mo_tk (nI x) (mo_tj (nI x) j (mo_ti (nI x) j (mo_tl (nI x) j σ))) = _
      rw [← ha]
      unfold mo_tk mo_tj mo_ti
      rw [ep a rfl, e2, mis_n _ 20 (by omega), ep _ (up_row _ _ _ _ _ (by decide)), et _ (up_row _ _ _ _ _ (by decide)), mbs_n _ 21 (by omega), mis_n _ 19 (by omega), mi_n _ 19 (by omega), sw_upc _ (by decide : ¬ 15 = 16), up_row _ _ _ _ _ (by decide : ¬ 19 = 20), e19, nI_1]
    have eA : aq A 1 x (A.2.1 1 x ++ o_items (la l) (j + 1)) = aq B 1 x (B.2.1 1 x ++ [(la l (2 + nI j), wmk (la l) (nI j))]) := by
      rw [hB1, hB, aq_aq, o_items_s, List.append_assoc]
    rw [e, eA]
    refine ⟨mr_q1 ih.1 ?_ (fun j' h1 h2 => ?_) (fun j' h1 => ?_) (mQ_app ih.1.2.2.2.1 hall hx (by omega) _ _ ?_ ?_ ?_) (fun y => ?_), ?_, ?_, hl19⟩
    · rw [sw_upc _ (by decide), sw_upc _ (by decide), sw_upc _ (by decide)]
    · rw [up_row _ _ _ _ _ h1, sw_upc _ (by decide), up_row _ _ _ _ _ h2]
    · rw [sw_upc _ (by decide), up_row _ _ _ _ _ h1, sw_upc _ (by decide)]
    · rw [up_rowS, sw_upc _ (by decide), up_row _ _ _ _ _ (by decide)]
    · rw [up_row _ _ _ _ _ (by decide), sw_upc _ (by decide), up_rowS, hp]
    · rw [sw_upc _ (by decide), up_rowS, sw_upc _ (by decide), hp]
    · rw [sw_upc _ (by decide), up_rowS, sw_upc _ (by decide)]
      unfold u1
      split
      · exact wmk_b _ _
      · exact ih.1.2.2.2.2.2.2.2.2 y
    · rw [sw_upc _ (by decide), sw_upc _ (by decide), sw_upc _ (by decide)]
      exact ih.2.1
    · rw [up_row _ _ _ _ _ (by decide), sw_upc _ (by decide), up_row _ _ _ _ _ (by decide)]
      exact ih.2.2.1
theorem te_go {P : az_P} {σ : sw_S} {A : az} (h : mr P σ A) {x : Nat} (hx : x < 2 ^ 31) : mr P (mo_te 0 (nI x) σ) (o_to P x (an A 13 x 1)) := by
  have h1 := mr_bn h (j := 13) rfl hx 1
  unfold mo_te o_to
  rw [h1.i 6 rfl hx]
  by_cases c : (an A 13 x 1).1 6 x = 0
  · rw [if_pos c, if_pos c]
    exact mr_be h1 hx
  · rw [if_neg c, if_neg c]
    exact h1
theorem ta_go {P : az_P} (hP : az_ok P) {σ : sw_S} {A : az} {l : List Int32} (hai : ai P A) (h : mD P σ A l) {u t : Nat} (hu : u < 2) (ht : t < P 0) (hsn : wsn (la l) = nI t) (h2 : 2 ≤ l.length) (hlt : nI l.length = wlt (la l)) (hsk : ¬ wsk P (la l) = 0) (hk : wkd (la l) = 1 ∨ wkd (la l) = 2 ∨ wkd (la l) = 3 ∨ wkd (la l) = 4) (hca : ¬ o_ca P (8 * u + t) (la l) A = 0) : (gX8_take (lz P) 0 (nI u) σ).1 ∧ mr P (mo_ta 0 (nI (8 * u + t)) σ) (o_tk P (8 * u + t) (la l) A) := by
  have hp0 := hP.1
  have hp1 := hP.2.1
  have hp5 := hP.2.2.2.2.2
  have hl19 := h.2.2.2
  have hm := h.1
  obtain ⟨x, hx⟩ : ∃ x, x = 8 * u + t := ⟨_, rfl⟩
  have hx16 : x < 16 := by omega
  have hx31 : x < 2 ^ 31 := by omega
  have e0 : mi σ 38 0 = la l 0 := mD_la h (j := 0) (by omega)
  have e1 : mi σ 38 1 = la l 1 := mD_la h (j := 1) (by omega)
  have ekd : mo_kd σ = wkd (la l) := by
    show mi σ 38 0 &&& 7 = _
    rw [e0]
  have ect : mo_ct σ = wct (la l) := by
    show sw_ushr (mi σ 38 0) 24 = _
    rw [e0]
  have esn : mo_sn σ = nI t := by
    show sw_ushr (mi σ 38 0) 3 &&& 31 = _
    rw [e0]
    exact hsn
  rw [← hx] at hca ⊢
  unfold gX8_take
  rw [esn, mo_ix_n, ← hx, ekd, ect]
  obtain ⟨n, hn, en⟩ := sw_ushr24 (la l 0)
  have en : wct (la l) = nI n := en
  have key : wkd (la l) = 1 → n + 3 = l.length ∧ n ≤ 16 ∧ (A.2.1 1 x).length + n ≤ P 5 := fun k1 => by
    unfold wlt at hlt
    rw [if_pos k1, en, show (3 : Int32) = nI 3 from rfl, nI_add] at hlt
    have hln := nI_inj (by omega) (by omega) hlt
    have hw := (wsk_1 hsk k1).2.1
    rw [en, nI_ltI (by omega) (by omega)] at hw
    unfold o_ca at hca
    rw [if_pos k1] at hca
    obtain ⟨d, ed, hd⟩ := hai.v 9 x
    have hb : ¬ o_cb x A = 0 := fun z => by rw [if_pos z] at hca; exact hca rfl
    rw [if_neg hb] at hca
    have hl : ¬ nI (P 5) - nI (A.2.1 1 x).length - A.1 9 x < wct (la l) := fun z => by rw [if_pos z] at hca; exact hca rfl
    rw [en, ed, i32_ss, nI_add, nI_sub (by omega), nI_ltI (by omega) (by omega)] at hl
    omega
  refine ⟨⟨lz_mo P, vp_in_nI hx16 (by decide), fun k1 => ?_⟩, ?_⟩
  · obtain ⟨g1, g2, g3⟩ := key k1
    refine ⟨(A.2.1 1 x).length, n, mr_19 hm hx16, en, g2, fun j hj => ?_⟩
    rw [mo_rx_n]
    exact vp_in_nI (by omega) (by decide)
  · unfold mo_ta o_tk
    rw [ekd, ect, e1, hm.i 8 rfl hx31]
    rcases hk with k | k | k | k
    · obtain ⟨g1, g2, g3⟩ := key k
      rw [if_pos k, if_pos k, en, nI_clamp (by omega)]
      exact (tl_go hP hai h hx16 g1 g3 n (Nat.le_refl _)).1
    · have k1 : ¬ wkd (la l) = 1 := by rw [k]; decide
      rw [if_neg k1, if_pos k, if_neg k1, if_pos k]
      exact mr_in hm rfl hx31 _
    · have k1 : ¬ wkd (la l) = 1 := by rw [k]; decide
      have k2 : ¬ wkd (la l) = 2 := by rw [k]; decide
      rw [if_neg k1, if_neg k2, if_pos k, if_neg k1, if_neg k2, if_pos k]
      exact te_go hm hx31
    · have k1 : ¬ wkd (la l) = 1 := by rw [k]; decide
      have k2 : ¬ wkd (la l) = 2 := by rw [k]; decide
      have k3 : ¬ wkd (la l) = 3 := by rw [k]; decide
      rw [if_neg k1, if_neg k2, if_neg k3, if_pos k, if_neg k1, if_neg k2, if_neg k3, if_pos k]
      exact mr_bn hm rfl hx31 1
theorem wsk_k {P : az_P} {w : Int32 → Int32} (h : ¬ wsk P w = 0) (h0 : ¬ wkd w = 0) : wkd w = 1 ∨ wkd w = 2 ∨ wkd w = 3 ∨ wkd w = 4 := by
  unfold wsk at h
  rw [if_neg h0] at h
  by_cases k1 : wkd w = 1
  · exact Or.inl k1
  · by_cases k2 : wkd w = 2
    · exact Or.inr (Or.inl k2)
    · by_cases k3 : wkd w = 3
      · exact Or.inr (Or.inr (Or.inl k3))
      · by_cases k4 : wkd w = 4
        · exact Or.inr (Or.inr (Or.inr k4))
        · rw [if_neg k1, if_neg k2, if_neg k3, if_neg k4] at h
          exact absurd rfl h
theorem mr_rf {P : az_P} {σ : sw_S} {A : az} (h : mr P σ A) {u : Nat} (hu : u < 2 ^ 31) : mr P (md_p (nI u) σ) (o_rf u A).2 := by
  unfold md_p o_rf
  rw [h.i 35 rfl hu]
  exact mr_in h rfl hu _
theorem mr_m12 {P : az_P} (hP : az_ok P) {σ : sw_S} {A : az} {u : Nat} (hv : ∃ v : Nat, A.1 29 u = nI v ∧ v ≤ P 2) (h : mr P σ A) (hu : u < 2 ^ 31) : mr P (md_t (nI u) (md_w 0 (nI u) σ)) (o_m2 u (o_m1 P u A)) := by
  have hp2 := hP.2.2.1
  obtain ⟨v, ev, hv⟩ := hv
  have h1 : mr P (md_w 0 (nI u) σ) (o_m1 P u A) := by
    unfold md_w o_m1
    obtain ⟨m, em, hm, hm2⟩ := o_nx_of hP hv
    rw [h.i 29 rfl hu, h.1 2 (by decide), ev, nI_1, nI_1, nI_rem (by omega) (by omega), em]
    have e : (v + 1) % (P 2 + 1) = m := by
      rw [hm2]
      by_cases q : v + 1 ≤ P 2
      · rw [if_pos q, Nat.mod_eq_of_lt (by omega)]
      · rw [if_neg q, show v + 1 = P 2 + 1 by omega, Nat.mod_self]
    rw [e]
    exact mr_in h rfl hu _
  unfold md_t o_m2
  rw [h1.i 34 rfl hu]
  exact mr_bn (mr_in h1 rfl hu _) rfl hu 1
theorem mdr_go {P : az_P} (hP : az_ok P) {σ : sw_S} {A : az} {l : List Int32} (hai : ai P A) (h : mD P σ A l) {u t : Nat} (hu : u < 2) (ht : t < P 0) (hsn : wsn (la l) = nI t) (h2 : 2 ≤ l.length) (hlt : nI l.length = wlt (la l)) (hsk : ¬ wsk P (la l) = 0) : md_rp (lz P) 0 (nI u) σ ∧ (md_r 0 (nI u) σ).1 = (o_ma P u (la l) A).1 ∧ mr P (md_r 0 (nI u) σ).2 (o_ma P u (la l) A).2 := by
  have hp0 := hP.1
  have hp2 := hP.2.2.1
  have hl19 := h.2.2.2
  have hm := h.1
  have hu31 : u < 2 ^ 31 := by omega
  have e0 : mi σ 38 0 = la l 0 := mD_la h (j := 0) (by omega)
  have ekd : mo_kd σ = wkd (la l) := by
    show mi σ 38 0 &&& 7 = _
    rw [e0]
  have enu : mv_nu σ = wnu (la l) := by
    show sw_ushr (mi σ 38 0) 8 &&& 255 = _
    rw [e0]
  have ex : md_x (nI u) σ = nI (8 * u + t) := by
    have esn : mo_sn σ = nI t := by
      show sw_ushr (mi σ 38 0) 3 &&& 31 = _
      rw [e0]
      exact hsn
    show mo_ix (nI u) (mo_sn σ) = _
    rw [esn, mo_ix_n]
  have esn2 : (wsn (la l)).toNatClampNeg = t := by rw [hsn, nI_clamp (by omega)]
  unfold md_rp md_r o_ma
  rw [ex, ekd, enu, hm.i 29 rfl hu31, esn2]
  by_cases k0 : wkd (la l) = 0
  · rw [if_pos k0, if_pos k0]
    exact ⟨fun z => absurd k0 z, rfl, hm⟩
  · have hk := wsk_k hsk k0
    rw [if_neg k0, if_neg k0, ca_go hP h h2 (x := 8 * u + t) (by omega) hk]
    refine ⟨fun _ _ => ⟨vp_in_nI (by omega) (by decide), fun hca => ?_⟩, ?_⟩
    · obtain ⟨t1, t2⟩ := ta_go hP hai h hu ht hsn h2 hlt hsk hk hca
      refine ⟨t1, ?_⟩
      rw [t2.1 2 (by decide), nI_1]
      exact nI_ne0 (by omega) (by omega)
    · by_cases c1 : wnu (la l) = A.1 29 u
      · rw [if_pos c1, if_pos c1]
        unfold o_mw
        by_cases c2 : o_ca P (8 * u + t) (la l) A = 0
        · rw [if_pos c2, if_pos c2]
          exact ⟨rfl, mr_rf hm hu31⟩
        · rw [if_neg c2, if_neg c2]
          obtain ⟨t1, t2⟩ := ta_go hP hai h hu ht hsn h2 hlt hsk hk c2
          refine ⟨rfl, mr_m12 hP ?_ t2 hu31⟩
          have e29 : (o_tk P (8 * u + t) (la l) A).1 29 = A.1 29 := by
            unfold o_tk o_to
            split
            · rfl
            · split
              · rw [an_n _ (by decide)]
              · split
                · split
                  · rw [an_n _ (by decide), an_n _ (by decide), an_n _ (by decide)]
                  · rw [an_n _ (by decide)]
                · split
                  · rw [an_n _ (by decide)]
                  · rfl
          rw [e29]
          exact hai.v 29 u
      · rw [if_neg c1, if_neg c1]
        refine ⟨rfl, ?_⟩
        show mr P (md_l (nI u) σ) (o_m4 u A)
        unfold md_l o_m4
        rw [hm.i 36 rfl hu31]
        exact mr_bn (mr_in hm rfl hu31 _) rfl hu31 1
theorem mdq_go {P : az_P} (hP : az_ok P) {σ : sw_S} {A : az} {l : List Int32} (hai : ai P A) (h : mD P σ A l) {u : Nat} (hu : u < 2) (h2 : 2 ≤ l.length) : md_qp (lz P) 0 (nI u) σ ∧ (md_q 0 (nI u) σ).1 = (o_meet P u l A).1 ∧ mr P (md_q 0 (nI u) σ).2 (o_meet P u l A).2 := by
  have hp1 := hP.2.1
  have hl19 := h.2.2.2
  have hf := vf_go hP h h2
  have hpre : (gX8_isFrame (lz P) 0 σ).1 := by
    refine ⟨lz_mo P, ?_, l.length - 1, by omega, ?_⟩
    · rw [h.1.1 1 (by decide)]
      exact nI_le (b := 16) (by omega) (by decide)
    · rw [h.2.1, show (1 : Int32) = nI 1 from rfl, nI_sub (by omega)]
  unfold md_qp md_q o_meet
  rw [hf]
  by_cases c : o_so P l = 0
  · rw [if_pos c, if_pos c]
    exact ⟨⟨hpre, fun z => absurd c z⟩, rfl, mr_rf h.1 (by omega)⟩
  · rw [if_neg c, if_neg c]
    obtain ⟨t, v, et, ht, ev, hv⟩ := o_so_nat hP c
    obtain ⟨s1, -, -, -, -, s6⟩ := o_so_of c
    have e0 : mi σ 38 0 = la l 0 := mD_la h (j := 0) (by omega)
    have ewa : mv_wa σ = nI v := by
      show sw_ushr (mi σ 38 0) 16 &&& 255 = _
      rw [e0]
      exact ev
    unfold md_b
    rw [ewa, ev]
    obtain ⟨d1, d2⟩ := se_mo hP hai h hu hv
    obtain ⟨r1, r2⟩ := mdr_go hP (ai_se hai u hv) d2 hu ht et h2 s1 s6
    exact ⟨⟨hpre, fun _ => ⟨d1, r1⟩⟩, r2⟩
/-! what lies on the wire the other way doesn't matter -/
theorem o_ma_af (P : az_P) (u : Nat) (w : Int32 → Int32) (A : az) (r : Nat) (ls : List (List Int32)) : o_ma P u w (af A r ls) = ((o_ma P u w A).1, af (o_ma P u w A).2 r ls) := by
  unfold o_ma
  show (if wkd w = 0 then (3, af A r ls) else if wnu w = A.1 29 u then o_mw P u (8 * u + (wsn w).toNatClampNeg) w (af A r ls) else (4, o_m4 u (af A r ls))) = _
  by_cases c0 : wkd w = 0
  · rw [if_pos c0, if_pos c0]
  · rw [if_neg c0, if_neg c0]
    by_cases c1 : wnu w = A.1 29 u
    · rw [if_pos c1, if_pos c1]
      obtain ⟨x, hx⟩ : ∃ x, x = 8 * u + (wsn w).toNatClampNeg := ⟨_, rfl⟩
      rw [← hx]
      unfold o_mw
      show (if o_ca P x w A = 0 then o_rf u (af A r ls) else (1, o_m2 u (o_m1 P u (o_tk P x w (af A r ls))))) = _
      by_cases c2 : o_ca P x w A = 0
      · rw [if_pos c2, if_pos c2]
        rfl
      · rw [if_neg c2, if_neg c2]
        have e : o_tk P x w (af A r ls) = af (o_tk P x w A) r ls := by
          unfold o_tk
          by_cases k1 : wkd w = 1
          · rw [if_pos k1, if_pos k1]
            rfl
          · rw [if_neg k1, if_neg k1]
            by_cases k2 : wkd w = 2
            · rw [if_pos k2, if_pos k2]
              rfl
            · rw [if_neg k2, if_neg k2]
              by_cases k3 : wkd w = 3
              · rw [if_pos k3, if_pos k3]
                unfold o_to
                show (if (an A 13 x 1).1 6 x = 0 then an (an (an (af A r ls) 13 x 1) 6 x 1) 8 x (nI (P 5)) else an (af A r ls) 13 x 1) = _
                by_cases k6 : (an A 13 x 1).1 6 x = 0
                · rw [if_pos k6, if_pos k6]
                  rfl
                · rw [if_neg k6, if_neg k6]
                  rfl
              · rw [if_neg k3, if_neg k3]
                by_cases k4 : wkd w = 4
                · rw [if_pos k4, if_pos k4]
                  rfl
                · rw [if_neg k4, if_neg k4]
        rw [e]
        rfl
    · rw [if_neg c1, if_neg c1]
      rfl
theorem o_meet_af (P : az_P) (u : Nat) (l : List Int32) (A : az) {r : Nat} (hr : ¬ 2 * u = r) (ls : List (List Int32)) : o_meet P u l (af A r ls) = ((o_meet P u l A).1, af (o_meet P u l A).2 r ls) := by
  have e1 : (af A r ls).2.2 (2 * u) = A.2.2 (2 * u) := u1_n _ _ hr
  have e : ∀ x, o_se P u x (af A r ls) = af (o_se P u x A) r ls := fun x => by
    unfold o_se
    rw [e1]
    show (if o_sb P (A.1 28 u) x ≤ nI (A.2.2 (2 * u)).length then an (af (af A r ls) (2 * u) ((A.2.2 (2 * u)).drop (o_sb P (A.1 28 u) x).toNatClampNeg)) 28 u x else af A r ls) = _
    by_cases c : o_sb P (A.1 28 u) x ≤ nI (A.2.2 (2 * u)).length
    · rw [if_pos c, if_pos c]
      have : ∀ L, af (af A r ls) (2 * u) L = af (af A (2 * u) L) r ls := fun L => by
        unfold af
        refine congrArg (fun z => (A.1, A.2.1, z)) ?_
        funext y
        show u1 (u1 A.2.2 r ls) (2 * u) L y = u1 (u1 A.2.2 (2 * u) L) r ls y
        by_cases y1 : y = 2 * u
        · subst y1
          rw [u1_s, u1_n _ _ hr, u1_s]
        · rw [u1_n _ _ y1]
          by_cases y2 : y = r
          · subst y2
            rw [u1_s, u1_s]
          · rw [u1_n _ _ y2, u1_n _ _ y2, u1_n _ _ y1]
      rw [this]
      rfl
    · rw [if_neg c, if_neg c]
  unfold o_meet
  by_cases c : o_so P l = 0
  · rw [if_pos c, if_pos c]
    rfl
  · rw [if_neg c, if_neg c, e, o_ma_af]
theorem L_deliver {P : az_P} (hP : az_ok P) {σ : sw_S} {A : az} (hai : ai P A) (h : mr P σ A) (i : Int32) : (gX8_deliver (lz P) 0 i σ).1 ∧ (md 0 i σ).1 = (O_deliver P i A).1 ∧ mr P (md 0 i σ).2 (O_deliver P i A).2 := by
  rcases dS_of i with ⟨s, hs, he, h1, -, h3⟩ | ⟨h1, -, h3⟩
  · have hp4 := hP.2.2.2.2.1
    have hf := (ai_f hai s).2
    have e25 := mr_25 h hs
    have e20 : (20 : Int32) * nI s = nI (20 * s) := by rw [show (20 : Int32) = nI 20 from rfl, nI_mul]
    unfold gX8_deliver O_deliver md
    rw [h1, h3, if_neg (by decide), he, e25]
    dsimp only
    match hq : A.2.2 (2 * s + 1) with
    | [] =>
      rw [if_pos (by exact nI_0)]
      exact ⟨⟨lz_mo P, fun _ => ⟨s, hs, rfl, fun z => absurd nI_0 z⟩⟩, rfl, h⟩
    | l :: ls =>
      rw [hq, List.length_cons] at hf
      have hl := ai_l19 hP hai (r := 2 * s + 1) (l := l) (by rw [hq]; exact List.mem_cons_self)
      obtain ⟨b1, b2⟩ := (h.2.2.2.2.2.1 s hs).2 0 (by show 0 < (A.2.2 (2 * s + 1)).length; rw [hq, List.length_cons]; omega)
      have b1 : σ 15 26 (20 * s + 0) = nI ((A.2.2 (2 * s + 1)).getD 0 []).length := b1
      have b2 : ra (σ 15 27) (19 * (20 * s + 0)) ((A.2.2 (2 * s + 1)).getD 0 []) := b2
      rw [hq] at b1 b2
      have b1 : σ 15 26 (20 * s) = nI l.length := b1
      have b2 : ra (σ 15 27) (19 * (20 * s)) l := b2
      have e26 : mi σ 26 (20 * nI s) = nI l.length := by rw [e20, mi_n σ 26 (by omega), b1]
      have ec : md_c 0 (nI s) σ = mt_c 27 (nI (19 * (20 * s))) l.length (sw_up σ 8 0 39 (nI l.length)) := by
        unfold md_c md_1
        rw [e26, nI_clamp (by omega), show (380 : Int32) = nI 380 from rfl, nI_mul, show 380 * s = 19 * (20 * s) by omega]
      have c1 := mD_c h (a := 27) (q := 19 * (20 * s)) (by decide) (by omega) hl.2 b2
      rw [← ec] at c1
      obtain ⟨d1, d2, d3, d4⟩ := mr_dr hP hai c1.1 hs hq
      have hai2 : ai P (af A (2 * s + 1) ls) := ai_af hai (aiF_tl hai.2.2.2 hq)
      have c2 : mD P (md_a 0 (nI s) σ) (af A (2 * s + 1) ls) l := by
        refine ⟨d1, ?_, ?_, hl.2⟩
        · show mo_dr (nI s) (md_c 0 (nI s) σ) 8 0 39 = _
          rw [d4]
          exact c1.2.1
        · show ra (mo_dr (nI s) (md_c 0 (nI s) σ) 15 38) 0 l
          rw [d3]
          exact c1.2.2.1
      have hi : (1 : Int32) - nI s = nI (1 - s) := by rw [show (1 : Int32) = nI 1 from rfl, nI_sub (by omega)]
      obtain ⟨q1, q2⟩ := mdq_go hP hai2 c2 (u := 1 - s) (by omega) hl.1
      rw [o_meet_af P (1 - s) l A (by omega)] at q2
      rw [if_neg (nI_ne0 (by rw [List.length_cons]; omega) (by rw [List.length_cons]; omega)), hi]
      exact ⟨⟨lz_mo P, fun _ => ⟨s, hs, rfl, fun _ => ⟨⟨l.length, hl.2, e26⟩, d2, q1⟩⟩⟩, q2⟩
  · unfold gX8_deliver O_deliver md
    rw [h1, h3, if_pos rfl]
    exact ⟨⟨lz_mo P, fun z => absurd rfl z⟩, rfl, h⟩
