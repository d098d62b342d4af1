/-! The pure part: the model's pump and drain -/
theorem mo_hd_n {P : az_P} {σ : sw_S} {A : az} (h : mr P σ A) {s : Nat} (hs : s < 2) {kd : Int32} (hk : ¬ kd = 0) (t ct : Int32) : mo_hd (nI s) kd t ct σ = o_hd P s kd t ct A := by
  unfold mo_hd mo_nu o_hd fh
  rw [if_neg hk, mi_n σ 28 (by omega), h.2.2.2.2.2.2.1 s hs, h.i 29 rfl (by omega)]
theorem o_bits_hi (L : List (Int32 × Int32)) : ∀ n : Nat, n ≤ 32 → ∀ i, n ≤ i → i < 32 → bt (o_bits L n) i = false
  | 0, _, i, _, _ => b_0 i
  | n + 1, hn, i, hi, h32 => by
    show bt (if (L.getD n (0, 0)).2 = 0 then o_bits L n else o_bits L n ^^^ (1 : Int32) <<< (nI n &&& 31)) i = false
    have ih := o_bits_hi L n (by omega) i (by omega) h32
    split
    · exact ih
    · rw [b_xor, ih, b_sh1 (by omega) h32, decide_eq_false (by omega)]
      rfl
theorem gm_1 {L : List (Int32 × Int32)} {j : Nat} (h : j < L.length) : (L.map Prod.fst).getD j 0 = (L.getD j (0, 0)).1 := by
  rw [List.getD_eq_getElem?_getD, List.getD_eq_getElem?_getD, List.getElem?_map, List.getElem?_eq_getElem h]
  rfl
theorem gm_2 {L : List (Int32 × Int32)} {j : Nat} (h : j < L.length) : (L.map Prod.snd).getD j 0 = (L.getD j (0, 0)).2 := by
  rw [List.getD_eq_getElem?_getD, List.getD_eq_getElem?_getD, List.getElem?_map, List.getElem?_eq_getElem h]
  rfl
theorem mr_17 {P : az_P} {σ : sw_S} {A : az} (h : mr P σ A) {x j : Nat} (hx : x < 16) (hj : j < (A.2.1 0 x).length) (hl : (A.2.1 0 x).length ≤ 400) : mi σ 17 (mo_rx (nI x) j) = ((A.2.1 0 x).getD j (0, 0)).1 ∧ mb σ 18 (mo_rx (nI x) j) = ((A.2.1 0 x).getD j (0, 0)).2 := by
  obtain ⟨-, a2, a3⟩ := h.2.2.1 x hx
  rw [mo_rx_n, mi_n σ 17 (by omega), mb_n σ 18 (by omega), a2 j (by rw [List.length_map]; exact hj), a3 j (by rw [List.length_map]; exact hj), gm_1 hj, gm_2 hj]
  exact ⟨rfl, rfl⟩
theorem bi_go {P : az_P} {σ : sw_S} {A : az} (h : mr P σ A) {x : Nat} (hx : x < 16) (hl : (A.2.1 0 x).length ≤ 400) : ∀ n : Nat, n ≤ (A.2.1 0 x).length → n ≤ 16 → mo_bi (nI x) σ n = o_bits (A.2.1 0 x) n
  | 0, _, _ => rfl
  | n + 1, hn, h16 => by
    have ih := bi_go h hx hl n (by omega) (by omega)
    show (if mb σ 18 (mo_rx (nI x) n) = 0 then mo_bi (nI x) σ n ||| 0 else mo_bi (nI x) σ n ||| (1 : Int32) <<< (nI n &&& 31)) = (if ((A.2.1 0 x).getD n (0, 0)).2 = 0 then o_bits (A.2.1 0 x) n else o_bits (A.2.1 0 x) n ^^^ (1 : Int32) <<< (nI n &&& 31))
    rw [(mr_17 h hx (j := n) (by omega) hl).2, ih]
    by_cases c : ((A.2.1 0 x).getD n (0, 0)).2 = 0
    · rw [if_pos c, if_pos c, Int32.or_zero]
    · rw [if_neg c, if_neg c]
      exact b_orx (by omega) (o_bits_hi _ n (by omega) n (Nat.le_refl _) (by omega))
theorem aw_go {P : az_P} {σ : sw_S} {A : az} {a b : Int32} {x : Nat} (hx : x < 16) (hl : (A.2.1 0 x).length ≤ 400) (h : mD P σ A [a, b]) : ∀ n : Nat, n ≤ (A.2.1 0 x).length → n ≤ 16 → mD P (mo_aw 0 (nI x) n σ) A (a :: b :: ((A.2.1 0 x).take n).map Prod.fst)
  | 0, _, _ => by
    rw [List.take_zero]
    exact h
  | n + 1, hn, h16 => by
    have ih := aw_go hx hl h n (by omega) (by omega)
    have e := (mr_17 ih.1 hx (j := n) (by omega) hl).1
    show mD P (mo_ad 0 (mi (mo_aw 0 (nI x) n σ) 17 (mo_rx (nI x) n)) (mo_aw 0 (nI x) n σ)) A _
    rw [e]
    have := mD_ad ih (by show (((A.2.1 0 x).take n).map Prod.fst).length + 1 + 1 < 19; rw [List.length_map, List.length_take]; omega) ((A.2.1 0 x).getD n (0, 0)).1
    have e2 : (a :: b :: ((A.2.1 0 x).take n).map Prod.fst) ++ [((A.2.1 0 x).getD n (0, 0)).1] = a :: b :: ((A.2.1 0 x).take (n + 1)).map Prod.fst := by
      show a :: b :: (((A.2.1 0 x).take n).map Prod.fst ++ [((A.2.1 0 x).getD n (0, 0)).1]) = a :: b :: ((A.2.1 0 x).take (n + 1)).map Prod.fst
      rw [List.take_add_one, List.getD_eq_getElem?_getD, List.getElem?_eq_getElem (by omega), List.map_append]
      rfl
    rw [e2] at this
    exact this
theorem shq_go {x C : Nat} (hx : x < 16) (hC : C ≤ 400) (σ : sw_S) : ∀ n : Nat, n ≤ 400 → mo_sh (nI x) (nI C) n σ 15 17 = sh (σ 15 17) (400 * x) n C ∧ mo_sh (nI x) (nI C) n σ 16 18 = sh (σ 16 18) (400 * x) n C ∧ (∀ j, ¬ j = 17 → mo_sh (nI x) (nI C) n σ 15 j = σ 15 j) ∧ (∀ j, ¬ j = 18 → mo_sh (nI x) (nI C) n σ 16 j = σ 16 j) ∧ ∀ c, ¬ c = 15 → ¬ c = 16 → mo_sh (nI x) (nI C) n σ c = σ c
  | 0, _ => by
    rw [sh_0, sh_0]
    exact ⟨rfl, rfl, fun _ _ => rfl, fun _ _ => rfl, fun _ _ _ => rfl⟩
  | n + 1, hn => by
    obtain ⟨i1, i2, i3, i4, i5⟩ := shq_go hx hC σ n (by omega)
    obtain ⟨a, ha⟩ : ∃ a, a = mo_sh (nI x) (nI C) n σ := ⟨_, rfl⟩
    rw [← ha] at i1 i2 i3 i4 i5
    have e : mo_sh (nI x) (nI C) (n + 1) σ = sw_up (sw_up a 15 17 (400 * x + n) (a 15 17 (400 * x + n + C))) 16 18 (400 * x + n) (a 16 18 (400 * x + n + C)) := by
      show mbs (mo_sa (nI x) (nI C) n (mo_sh (nI x) (nI C) n σ)) 18 (mo_rx (nI x) n) (mb (mo_sa (nI x) (nI C) n (mo_sh (nI x) (nI C) n σ)) 18 (mo_rx (nI x) n + nI C)) = _
      rw [← ha]
      unfold mo_sa
      rw [mo_rx_n, nI_add, mis_n _ 17 (by omega), mi_n _ 17 (by omega), mbs_n _ 18 (by omega), mb_n _ 18 (by omega), sw_upc _ (by decide : ¬ 16 = 15)]
    rw [e]
    refine ⟨?_, ?_, fun j hj => ?_, fun j hj => ?_, fun c h1 h2 => ?_⟩
    · rw [sw_upc _ (by decide), up_rowS, i1, sh_s]
    · rw [up_rowS, sw_upc _ (by decide), i2, sh_s]
    · rw [sw_upc _ (by decide), up_row _ _ _ _ _ hj, i3 j hj]
    · rw [up_row _ _ _ _ _ hj, sw_upc _ (by decide), i4 j hj]
    · rw [sw_upc _ h2, sw_upc _ h1, i5 c h1 h2]
theorem o_k_le {P : az_P} (hP : az_ok P) {A : az} (hai : ai P A) (x : Nat) : o_k P x A ≤ (A.2.1 0 x).length ∧ o_k P x A ≤ P 1 := by
  unfold o_k
  omega
theorem qn_go {P : az_P} (hP : az_ok P) {σ : sw_S} {A : az} (hai : ai P A) (h : mr P σ A) {x : Nat} (hx : x < 16) : mo_qn 0 (nI x) σ = nI (o_k P x A) := by
  have hp1 := hP.2.1
  have hp5 := hP.2.2.2.2.2
  have hl := ai_q0 hP hai x
  obtain ⟨c, hc, hcl⟩ := hai.v 8 x
  have e1 : mo_q1 (nI x) σ = nI (min c (A.2.1 0 x).length) := by
    unfold mo_q1
    rw [h.i 8 rfl (x := x) (by omega), mr_16 h hx, hc]
    by_cases hle : c ≤ (A.2.1 0 x).length
    · rw [if_pos (nI_le hle (by omega)), Nat.min_eq_left hle]
    · rw [if_neg (nI_ge (by omega) (by omega)), Nat.min_eq_right (by omega)]
  unfold mo_qn o_k
  rw [e1, h.1 1 (by decide), hc, nI_clamp (by omega)]
  obtain ⟨m, hm⟩ : ∃ m, m = min c (A.2.1 0 x).length := ⟨_, rfl⟩
  have hm2 : m ≤ 400 := by omega
  rw [← hm]
  by_cases hle : P 1 ≤ m
  · rw [if_pos (nI_le hle (by omega)), Nat.min_eq_right hle]
  · rw [if_neg (nI_ge (by omega) (by omega)), Nat.min_eq_left (by omega)]
theorem mD_dd {P : az_P} (hP : az_ok P) {σ : sw_S} {A : az} (hai : ai P A) (h : mr P σ A) {s x : Nat} (hs : s < 2) (hx : x < 16) (t : Int32) : mD P (mo_dd 0 (nI s) t (nI x) σ) (o_dd P s x t A).2 (o_dd P s x t A).1 := by
  have hp1 := hP.2.1
  have hl := ai_q0 hP hai x
  have hk := o_k_le hP hai x
  have hq := qn_go hP hai h hx
  obtain ⟨k, hkk⟩ : ∃ k, k = o_k P x A := ⟨_, rfl⟩
  rw [← hkk] at hk hq
  have b1 := mD_bf h (nI s) 1 t (nI k)
  rw [mo_hd_n h hs (by decide)] at b1
  obtain ⟨s0, hs0⟩ : ∃ s0, s0 = mo_bf 0 (nI s) 1 t (nI k) σ := ⟨_, rfl⟩
  rw [← hs0] at b1
  have b2 := mD_ad b1 (by show 1 < 19; decide) (o_bits (A.2.1 0 x) k)
  have b2 : mD P (mo_ad 0 (o_bits (A.2.1 0 x) k) s0) A [o_hd P s 1 t (nI k) A, o_bits (A.2.1 0 x) k] := b2
  have b3 := aw_go hx hl b2 k hk.1 (by omega)
  have e2 : mo_d2 0 k (nI x) s0 = mo_aw 0 (nI x) k (mo_ad 0 (o_bits (A.2.1 0 x) k) s0) := by
    unfold mo_d2
    rw [bi_go b1.1 hx hl k hk.1 (by omega)]
  rw [← e2] at b3
  obtain ⟨y, hy⟩ : ∃ y, y = mo_d2 0 k (nI x) s0 := ⟨_, rfl⟩
  rw [← hy] at b3
  have e16 : y 15 16 x = nI (A.2.1 0 x).length := (b3.1.2.2.1 x hx).1
  have e3 : mo_d3 0 k (nI x) (nI k) s0 = sw_up y 15 16 x (nI ((A.2.1 0 x).length - k)) := by
    unfold mo_d3 mo_s3
    rw [← hy, mis_n _ 16 (by omega), mi_n _ 16 (by omega), e16, nI_sub hk.1]
  obtain ⟨i1, i2, i3, i4, i5⟩ := shq_go hx (C := k) (by omega) (sw_up y 15 16 x (nI ((A.2.1 0 x).length - k))) ((A.2.1 0 x).length - k) (by omega)
  obtain ⟨z, hz⟩ : ∃ z, z = mo_sh (nI x) (nI k) ((A.2.1 0 x).length - k) (sw_up y 15 16 x (nI ((A.2.1 0 x).length - k))) := ⟨_, rfl⟩
  rw [← hz] at i1 i2 i3 i4 i5
  have d1 : mr P z (aq A 0 x ((A.2.1 0 x).drop k)) := by
    refine mr_q0 b3.1 ?_ (fun j h1 h2 => ?_) (fun j h1 => ?_) (mQ_drop b3.1.2.2.1 (ai_q0 hP hai) hx hk.1 ?_ ?_ ?_) (fun w => ?_)
    · rw [i5 8 (by decide) (by decide), sw_upc _ (by decide)]
    · rw [i3 j h2, up_row _ _ _ _ _ h1]
    · rw [i4 j h1, sw_upc _ (by decide)]
    · rw [i3 16 (by decide), up_rowS]
    · rw [i1, up_row _ _ _ _ _ (by decide)]
    · rw [i2, sw_upc _ (by decide)]
    · rw [i2, sw_upc _ (by decide)]
      exact sh_b b3.1.2.2.2.2.2.2.2.1 _ _ _ _
  have e4 : mo_dd 0 (nI s) t (nI x) σ = sw_up z 15 8 x (A.1 8 x - nI k) := by
    unfold mo_dd
    rw [hq, nI_clamp (by omega), ← hs0]
    unfold mo_d4
    rw [e3, mi_n _ 16 (by omega), up_rowS, u1_s, nI_clamp (by omega), ← hz]
    unfold mo_s4
    rw [mis_n _ 8 (by omega), d1.i 8 rfl (x := x) (by omega)]
    rfl
  rw [e4]
  unfold o_dd
  rw [← hkk]
  refine ⟨mr_i d1 (j := 8) rfl x _, ?_, ?_, b3.2.2.2⟩
  · rw [sw_upc _ (by decide), i5 8 (by decide) (by decide), sw_upc _ (by decide)]
    exact b3.2.1
  · rw [up_row _ _ _ _ _ (by decide), i3 38 (by decide), up_row _ _ _ _ _ (by decide)]
    exact b3.2.2.1
theorem o_hd_an (P : az_P) (s : Nat) (kd t ct : Int32) (A : az) {j x : Nat} (v : Int32) (h28 : ¬ j = 28) (h29 : ¬ j = 29) : o_hd P s kd t ct (an A j x v) = o_hd P s kd t ct A := by
  unfold o_hd
  rw [o_nb_an P s A x v h28]
  have e : (an A j x v).1 29 s = A.1 29 s := u2_n _ _ (fun z => h29 z.1.symm)
  rw [e]
theorem so_mD {P : az_P} (hP : az_ok P) {σ : sw_S} {A : az} (hai : ai P A) (h : mr P σ A) {s t : Nat} (hs : s < 2) (ht : t < P 0) (ho : (A.2.2 (2 * s)).length ≤ P 2) : mD P (mo_so 0 (nI s) (nI t) (nI (8 * s + t)) σ) (o_b1 P s (8 * s + t) (nI t) A).2 (o_b1 P s (8 * s + t) (nI t) A).1 ∧ (o_b1 P s (8 * s + t) (nI t) A).2.2.2 = A.2.2 ∧ ((o_b1 P s (8 * s + t) (nI t) A).2.1 28 s = A.1 28 s ∧ (o_b1 P s (8 * s + t) (nI t) A).2.1 30 = A.1 30 ∧ (o_b1 P s (8 * s + t) (nI t) A).2.1 31 = A.1 31 ∧ (o_b1 P s (8 * s + t) (nI t) A).2.1 10 = A.1 10) ∧ 1 ≤ (o_b1 P s (8 * s + t) (nI t) A).1.length ∧ (o_b1 P s (8 * s + t) (nI t) A).1.length < P 1 + 3 ∧ (¬ (o_b1 P s (8 * s + t) (nI t) A).1.getD 0 0 &&& 7 = 0) ∧ (¬ (o_b1 P s (8 * s + t) (nI t) A).1.getD 0 0 &&& 7 = 1 → sw_ushr ((o_b1 P s (8 * s + t) (nI t) A).1.getD 0 0) 24 = 0) := by
  have hp0 := hP.1
  have hp1 := hP.2.1
  obtain ⟨x, hx⟩ : ∃ x, x = 8 * s + t := ⟨_, rfl⟩
  have hx16 : x < 16 := by omega
  rw [← hx]
  unfold mo_so o_b1
  rw [h.b 11 rfl (x := x) (by omega), mr_16 h hx16]
  by_cases c1 : A.1 11 x = 0
  · rw [if_pos c1, if_pos c1]
    by_cases c2 : nI (A.2.1 0 x).length ≤ 0
    · rw [if_pos c2, if_pos c2]
      have a1 := mr_bn h (j := 12) rfl (x := x) (by omega) 0
      have a2 := mD_bf a1 (nI s) 4 (nI t) 0
      rw [mo_hd_n a1 hs (by decide), o_hd_an P s _ _ _ A _ (by decide) (by decide)] at a2
      refine ⟨a2, rfl, ⟨congrFun (an_n _ (by decide)) s, an_n _ (by decide), an_n _ (by decide), an_n _ (by decide)⟩, Nat.le_refl _, by show 1 < P 1 + 3; omega, ?_, fun _ => o_hd_ct hP hai (k := 4) ho (by decide) (by omega)⟩
      show ¬ o_hd P s 4 (nI t) 0 A &&& 7 = 0
      rw [show o_hd P s 4 (nI t) 0 A &&& 7 = nI 4 from fh_kd (k := 4) (by decide) _ _ _ _]
      decide
    · rw [if_neg c2, if_neg c2]
      have hk := o_k_le hP hai x
      refine ⟨mD_dd hP hai h hs hx16 (nI t), rfl, ⟨congrFun (an_n _ (by decide)) s, an_n _ (by decide), an_n _ (by decide), an_n _ (by decide)⟩, ?_, ?_, ?_, fun z => absurd (fh_kd (k := 1) (by decide) _ _ _ _) z⟩
      · show 1 ≤ (o_dt _ (A.2.1 0 x) (o_k P x A)).length
        rw [o_dt_len _ _ hk.1]
        omega
      · show (o_dt _ (A.2.1 0 x) (o_k P x A)).length < P 1 + 3
        rw [o_dt_len _ _ hk.1]
        omega
      · show ¬ o_hd P s 1 (nI t) (nI (o_k P x A)) A &&& 7 = 0
        rw [show o_hd P s 1 (nI t) (nI (o_k P x A)) A &&& 7 = nI 1 from fh_kd (k := 1) (by decide) _ _ _ _]
        decide
  · rw [if_neg c1, if_neg c1]
    have a1 := mr_bn h (j := 11) rfl (x := x) (by omega) 0
    have a2 := mD_bf a1 (nI s) 3 (nI t) 0
    rw [mo_hd_n a1 hs (by decide), o_hd_an P s _ _ _ A _ (by decide) (by decide)] at a2
    refine ⟨a2, rfl, ⟨congrFun (an_n _ (by decide)) s, an_n _ (by decide), an_n _ (by decide), an_n _ (by decide)⟩, Nat.le_refl _, by show 1 < P 1 + 3; omega, ?_, fun _ => o_hd_ct hP hai (k := 3) ho (by decide) (by omega)⟩
    show ¬ o_hd P s 3 (nI t) 0 A &&& 7 = 0
    rw [show o_hd P s 3 (nI t) 0 A &&& 7 = nI 3 from fh_kd (k := 3) (by decide) _ _ _ _]
    decide
theorem so_go {P : az_P} (hP : az_ok P) {σ : sw_S} {A : az} (hai : ai P A) (h : mr P σ A) {s t : Nat} (hs : s < 2) (ht : t < P 0) (ho : (A.2.2 (2 * s)).length < P 2) (hw : (A.2.2 (2 * s + 1)).length < P 4) : (gX8_sendOf (lz P) 0 (nI s) (nI t) σ).1 ∧ mr P (mo_u1 0 (nI s) (nI t) σ) (o_nm s (o_b1 P s (8 * s + t) (nI t) A).1 (o_b1 P s (8 * s + t) (nI t) A).2) := by
  have hp0 := hP.1
  have hp1 := hP.2.1
  obtain ⟨a1, a2, a3, a4, a5, a6, a7⟩ := so_mD hP hai h hs ht (by omega)
  have h28 := hai.v 28 s
  obtain ⟨f1, f2⟩ := fin_go hP (by rw [a2]; exact hai.2.2.2) (by rw [a3.1]; exact h28) a1 hs a4 a5 a6 a7 (by rw [a2]; exact ho) (by rw [a2]; exact hw)
  have hl := ai_q0 hP hai (8 * s + t)
  have hk := o_k_le hP hai (8 * s + t)
  unfold gX8_sendOf mo_u1
  rw [mo_ix_n]
  refine ⟨⟨lz_mo P, h.2.2.2.2.2.2.2.1, vp_in_nI hs (by decide), vp_in_nI (by omega) (by decide), fun _ => ?_, f1⟩, f2⟩
  refine ⟨o_k P (8 * s + t) A, (A.2.1 0 (8 * s + t)).length, by omega, hk.1, by omega, qn_go hP hai h (by omega), mr_16 h (by omega), fun j hj => ?_⟩
  rw [mo_rx_n]
  exact vp_in_nI (by omega) (by decide)
theorem gs_go {P : az_P} {σ : sw_S} {A : az} (h : mr P σ A) {s : Nat} (hs : s < 2) : ∀ d j : Nat, j + d ≤ 8 → mo_gs (nI s) σ d j = o_sg s A d j
  | 0, _, _ => rfl
  | d + 1, j, hj => by
    show (if mi σ 9 (mo_ix (nI s) (nI j)) ≤ 0 then mo_gs (nI s) σ d (j + 1) else nI j) = (if A.1 9 (8 * s + j) ≤ 0 then o_sg s A d (j + 1) else nI j)
    rw [mo_ix_n, h.i 9 rfl (x := 8 * s + j) (by omega), gs_go h hs d (j + 1) (by omega)]
theorem hs_go {P : az_P} (hP : az_ok P) {σ : sw_S} {A : az} (hai : ai P A) (h : mr P σ A) {x : Nat} (hx : x < 16) : mo_hs (nI x) σ = o_hs x A := by
  have hl := ai_q0 hP hai x
  unfold mo_hs mo_h2 o_hs
  rw [h.b 11 rfl (x := x) (by omega), h.b 12 rfl (x := x) (by omega), h.i 8 rfl (x := x) (by omega), mr_16 h hx]
  by_cases c1 : A.1 11 x = 0
  · rw [if_pos c1, if_pos c1]
    by_cases c2 : nI (A.2.1 0 x).length ≤ 0
    · rw [if_pos c2, if_pos c2]
      have hz : nI (A.2.1 0 x).length = 0 := by
        match hq : A.2.1 0 x with
        | [] => exact nI_0
        | p :: r =>
          rw [hq] at c2 hl
          rw [List.length_cons] at c2 hl
          exact absurd c2 (nI_nle (by omega) (by omega))
      rw [if_pos hz]
      rcases hai.v 12 x with z | z
      · rw [if_pos z, z]
      · rw [if_neg (by rw [z]; decide), z]
    · rw [if_neg c2, if_neg c2]
      have hz : ¬ nI (A.2.1 0 x).length = 0 := fun z => c2 (by rw [z]; exact Int32.le_refl _)
      by_cases c3 : A.1 8 x ≤ 0
      · rw [if_pos c3, if_neg (Int32.not_lt.mpr c3), if_neg hz]
      · rw [if_neg c3, if_pos (Int32.not_le.mp c3)]
  · rw [if_neg c1, if_neg c1]
theorem tt_n {P : az_P} (hP : az_ok P) {σ : sw_S} {A : az} (h : mr P σ A) {s tu : Nat} (hs : s < 2) (e : A.1 30 s = nI tu) (htu : tu < P 0) {j : Nat} (hj : j ≤ 8) : mo_tt 0 (nI s) j σ = nI ((tu + j) % P 0) := by
  have hp := hP.1
  unfold mo_tt
  rw [h.i 30 rfl (x := s) (by omega), e, h.1 0 (by decide), nI_add, nI_rem (by omega) (by omega)]
theorem md_s {S t : Nat} (h : t < S) {m : Nat} (hm : m < S) : (t + m) % S = (if t + m < S then t + m else t + m - S) := by
  by_cases hc : t + m < S
  · rw [if_pos hc, Nat.mod_eq_of_lt hc]
  · rw [if_neg hc, Nat.mod_eq_sub_mod (by omega), Nat.mod_eq_of_lt (by omega)]
theorem ts_go {P : az_P} (hP : az_ok P) {σ : sw_S} {A : az} (hai : ai P A) (h : mr P σ A) {s tu : Nat} (hs : s < 2) (e : A.1 30 s = nI tu) (htu : tu < P 0) : ∀ d j : Nat, j + d = P 0 → ∀ u, (1 ≤ d → u = (tu + j) % P 0) → (mo_ts 0 (nI s) σ d j = -2 ∧ o_ts P s A d (nI u) = -2) ∨ ∃ m, m < P 0 ∧ mo_ts 0 (nI s) σ d j = nI m ∧ o_ts P s A d (nI u) = nI ((tu + m) % P 0)
  | 0, _, _, _, _ => Or.inl ⟨rfl, rfl⟩
  | d + 1, j, hj, u, hu => by
    have hp := hP.1
    have hu := hu (by omega)
    have hul : u < P 0 := by rw [hu]; exact Nat.mod_lt _ (by omega)
    have ett := tt_n hP h hs e htu (j := j) (by omega)
    rw [← hu] at ett
    have e1 : mo_ts 0 (nI s) σ (d + 1) j = if o_hs (8 * s + u) A = 0 then mo_ts 0 (nI s) σ d (j + 1) else nI j := by
      show (if mo_hs (mo_ix (nI s) (mo_tt 0 (nI s) j σ)) σ = 0 then mo_ts 0 (nI s) σ d (j + 1) else nI j) = _
      rw [ett, mo_ix_n, hs_go hP hai h (by omega)]
    obtain ⟨u', eu', hu', hu''⟩ := o_sa_of hP hul
    have e2 : o_ts P s A (d + 1) (nI u) = if o_hs (8 * s + u) A = 0 then o_ts P s A d (nI u') else nI u := by
      show (if o_hs (8 * s + (nI u).toNatClampNeg) A = 0 then o_ts P s A d (o_sa P (nI u)) else nI u) = _
      rw [nI_clamp (by omega), eu']
    rw [e1, e2]
    by_cases c : o_hs (8 * s + u) A = 0
    · rw [if_pos c, if_pos c]
      refine ts_go hP hai h hs e htu d (j + 1) (by omega) u' (fun hd => ?_)
      rw [hu'', hu, md_s htu (m := j) (by omega), md_s htu (m := j + 1) (by omega)]
      by_cases c1 : tu + j < P 0
      · rw [if_pos c1]
        by_cases c2 : tu + j + 1 < P 0
        · rw [if_pos c2, if_pos (by omega)]
          omega
        · rw [if_neg c2, if_neg (by omega)]
          omega
      · rw [if_neg c1, if_pos (by omega), if_neg (by omega)]
        omega
    · rw [if_neg c, if_neg c]
      exact Or.inr ⟨j, by omega, rfl, by rw [← hu]⟩
theorem ak_go {P : az_P} (hP : az_ok P) {σ : sw_S} {A : az} (hai : ai P A) (h : mr P σ A) {s : Nat} (hs : s < 2) (hw : (A.2.2 (2 * s + 1)).length < P 4) : (¬ mb σ 32 (nI s) = 0 → (gX8_finish (lz P) 0 (nI s) (mo_bf 0 (nI s) 0 0 0 σ)).1) ∧ (mo_ak 0 (nI s) σ).1 = (o_na s A).1 ∧ mr P (mo_ak 0 (nI s) σ).2 (o_na s A).2 := by
  have a1 := mD_bf h (nI s) 0 0 0
  have e : mo_hd (nI s) 0 0 0 σ = (0 : Int32) ||| A.1 29 s <<< (16 &&& 31) := by
    rw [← fh_ack]
    unfold mo_hd mo_nu fh
    rw [if_pos rfl, h.i 29 rfl (x := s) (by omega)]
  rw [e] at a1
  have hk : [(0 : Int32) ||| A.1 29 s <<< (16 &&& 31)].getD 0 0 &&& 7 = 0 := by
    show ((0 : Int32) ||| A.1 29 s <<< (16 &&& 31)) &&& 7 = 0
    rw [← fh_ack]
    exact fh_kd (k := 0) (by decide) _ _ _ _
  obtain ⟨f1, f2⟩ := fin_ack hP hai.2.2.2 a1 hs (Nat.le_refl _) (by show 1 < 19; decide) hk hw
  refine ⟨fun _ => f1, ?_⟩
  unfold mo_ak o_na
  rw [h.b 32 rfl (x := s) (by omega)]
  by_cases c : A.1 32 s = 0
  · rw [if_pos c, if_pos c]
    exact ⟨rfl, h⟩
  · rw [if_neg c, if_neg c]
    exact ⟨rfl, f2⟩
theorem gr_go {P : az_P} (hP : az_ok P) {σ : sw_S} {A : az} (hai : ai P A) (h : mr P σ A) {s t : Nat} (hs : s < 2) (ht : t < P 0) (ho : (A.2.2 (2 * s)).length < P 2) (hw : (A.2.2 (2 * s + 1)).length < P 4) : (gX8_finish (lz P) 0 (nI s) (mo_g2 0 (nI s) (nI t) σ)).1 ∧ mr P (mo_fi 0 (nI s) (mo_g2 0 (nI s) (nI t) σ)) (o_gr P s (nI t) A) := by
  have hp0 := hP.1
  have hp1 := hP.2.1
  have a1 := mD_bf h (nI s) 2 (nI t) 0
  rw [mo_hd_n h hs (by decide)] at a1
  have a2 := mD_ad a1 (by show 1 < 19; decide) (A.1 9 (8 * s + t))
  have a2 : mD P (mo_ad 0 (A.1 9 (8 * s + t)) (mo_bf 0 (nI s) 2 (nI t) 0 σ)) A [o_hd P s 2 (nI t) 0 A, A.1 9 (8 * s + t)] := a2
  obtain ⟨y, hy⟩ : ∃ y, y = mo_ad 0 (A.1 9 (8 * s + t)) (mo_bf 0 (nI s) 2 (nI t) 0 σ) := ⟨_, rfl⟩
  rw [← hy] at a2
  have e : mo_g2 0 (nI s) (nI t) σ = sw_up y 15 9 (8 * s + t) 0 := by
    unfold mo_g2 mo_g1
    rw [mo_ix_n, a1.1.i 9 rfl (x := 8 * s + t) (by omega), ← hy, mis_n _ 9 (by omega)]
  have a3 : mD P (sw_up y 15 9 (8 * s + t) 0) (an A 9 (8 * s + t) 0) [o_hd P s 2 (nI t) 0 A, A.1 9 (8 * s + t)] := by
    refine ⟨mr_i a2.1 rfl _ 0, ?_, ?_, a2.2.2.2⟩
    · rw [sw_upc _ (by decide)]
      exact a2.2.1
    · rw [up_row _ _ _ _ _ (by decide)]
      exact a2.2.2.1
  rw [e]
  unfold o_gr
  rw [nI_clamp (by omega)]
  refine fin_go hP (A := an A 9 (8 * s + t) 0) hai.2.2.2 ?_ a3 hs (by show 1 ≤ 2; decide) (by show 2 < P 1 + 3; omega) ?_ (fun _ => o_hd_ct hP hai (k := 2) (by omega) (by decide) (by omega)) ho hw
  · have : (an A 9 (8 * s + t) 0).1 28 s = A.1 28 s := by rw [an_n _ (by decide)]
    rw [this]
    exact hai.v 28 s
  · show ¬ o_hd P s 2 (nI t) 0 A &&& 7 = 0
    rw [show o_hd P s 2 (nI t) 0 A &&& 7 = nI 2 from fh_kd (k := 2) (by decide) _ _ _ _]
    decide
