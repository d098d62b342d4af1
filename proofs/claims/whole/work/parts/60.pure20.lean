/-! The pure part: the model's pump and drain, on -/
theorem nI_inj {a b : Nat} (ha : a < 2 ^ 31) (hb : b < 2 ^ 31) (h : nI a = nI b) : a = b := by
  rw [← nI_clamp ha, h, nI_clamp hb]
theorem o_nm_n (s : Nat) (l : List Int32) (C : az) {j : Nat} (h32 : ¬ j = 32) (h33 : ¬ j = 33) : (o_nm s l C).1 j = C.1 j := by
  show u2 (u2 C.1 32 s 0) 33 s _ j = C.1 j
  rw [u2_rn _ _ h33, u2_rn _ _ h32]
theorem un_go {P : az_P} (hP : az_ok P) {σ : sw_S} {A : az} (hai : ai P A) (h : mr P σ A) {s tu m t : Nat} (hs : s < 2) (e : A.1 30 s = nI tu) (htu : tu < P 0) (hm : m < P 0) (ht : t = (tu + m) % P 0) (ho : (A.2.2 (2 * s)).length < P 2) (hw : (A.2.2 (2 * s + 1)).length < P 4) : mo_up (lz P) 0 (nI s) (nI m) (nI t) σ ∧ mr P (mo_un 0 (nI s) (nI m) (nI t) σ) (o_it P s (nI t) A) := by
  have hp0 := hP.1
  have htl : t < P 0 := by rw [ht]; exact Nat.mod_lt _ (by omega)
  have hs31 : s < 2 ^ 31 := by omega
  have ecl : (nI t).toNatClampNeg = t := nI_clamp (by omega)
  have h0 : mr P (mo_u0 (nI s) (nI m) (nI t) σ) (o_b0 s (nI t) A) ∧ ai P (o_b0 s (nI t) A) ∧ (o_b0 s (nI t) A).2.2 = A.2.2 ∧ (o_b0 s (nI t) A).1 30 s = nI t := by
    unfold mo_u0 o_b0
    by_cases c : m = 0
    · subst c
      have ett : t = tu := by rw [ht, Nat.add_zero, Nat.mod_eq_of_lt htu]
      rw [if_pos (by rw [nI_0]; exact Int32.le_refl _), if_pos (by rw [e, ett])]
      exact ⟨h, hai, rfl, by rw [e, ett]⟩
    · have hne : ¬ t = tu := by
        rw [ht, md_s htu hm]
        split <;> omega
      rw [if_neg (nI_nle (by omega) (by omega)), if_neg (fun z => hne (nI_inj (by omega) (by omega) (z.trans e)))]
      have a1 := mr_in h (j := 30) rfl hs31 (nI t)
      have a2 := mr_in a1 (j := 31) rfl hs31 ((an A 30 s (nI t)).1 10 (8 * s + t))
      have e10 : (an A 30 s (nI t)).1 10 (8 * s + t) = A.1 10 (8 * s + t) := by rw [an_n _ (by decide)]
      refine ⟨?_, ai_bt hai s htl, rfl, ?_⟩
      · unfold mo_ua o_bt
        rw [mo_ix_n, a1.i 10 rfl (x := 8 * s + t) (by omega), ecl]
        rw [e10] at a2 ⊢
        exact a2
      · unfold o_bt
        rw [an_n _ (by decide)]
        exact u2_s _ _ _ _
  obtain ⟨b1, b2, b3, b4⟩ := h0
  obtain ⟨C, hC⟩ : ∃ C, C = o_b0 s (nI t) A := ⟨_, rfl⟩
  rw [← hC] at b1 b2 b3 b4
  obtain ⟨s1, s2⟩ := so_go hP b2 b1 hs htl (by rw [b3]; exact ho) (by rw [b3]; exact hw)
  obtain ⟨-, -, ⟨-, n30, n31, n10⟩, -, -, -, -⟩ := so_mD hP b2 b1 hs htl (by rw [b3]; omega)
  obtain ⟨B, hB⟩ : ∃ B, B = o_nm s (o_b1 P s (8 * s + t) (nI t) C).1 (o_b1 P s (8 * s + t) (nI t) C).2 := ⟨_, rfl⟩
  have m30 : B.1 30 s = nI t := by rw [hB, o_nm_n s _ _ (by decide) (by decide), n30, b4]
  obtain ⟨c, c1, c2, c3⟩ := b2.v 31 s
  have m31 : B.1 31 s = nI c := by rw [hB, o_nm_n s _ _ (by decide) (by decide), n31, c1]
  rw [← hB] at s2
  obtain ⟨z, hz⟩ : ∃ z, z = mo_u1 0 (nI s) (nI t) (mo_u0 (nI s) (nI m) (nI t) σ) := ⟨_, rfl⟩
  rw [← hz] at s2
  have d2 : mr P (mo_u2 (nI s) z) (o_c1 s B) := by
    unfold mo_u2 o_c1
    rw [s2.i 31 rfl hs31]
    exact mr_in s2 rfl hs31 _
  have e31 : (o_c1 s B).1 31 s = nI (c - 1) := by
    show u2 B.1 31 s (B.1 31 s - 1) 31 s = _
    rw [u2_s, m31, show (1 : Int32) = nI 1 from rfl, nI_sub c2]
  have e30 : (o_c1 s B).1 30 s = nI t := by
    show u2 B.1 31 s (B.1 31 s - 1) 30 s = _
    rw [u2_n _ _ (fun z => absurd z.1 (by decide)), m30]
  have f31 : mi (mo_u2 (nI s) z) 31 (nI s) = nI (c - 1) := by rw [d2.i 31 rfl hs31, e31]
  obtain ⟨t', et', ht', ht''⟩ := o_sa_of hP htl
  have erem : sw_rem (nI t + 1) (nI (P 0)) = nI t' := by
    rw [nI_1, nI_rem (by omega) (by omega)]
    congr 1
    rw [ht'']
    by_cases q : t + 1 < P 0
    · rw [if_pos q, Nat.mod_eq_of_lt q]
    · rw [if_neg q, show t + 1 = P 0 by omega, Nat.mod_self]
  have dub : mr P (mo_ub 0 (nI s) (nI t) (mo_u2 (nI s) z)) (an (o_c1 s B) 30 s (nI t')) := by
    unfold mo_ub
    rw [d2.1 0 (by decide), erem]
    exact mr_in d2 rfl hs31 _
  have fub : mi (mo_ub 0 (nI s) (nI t) (mo_u2 (nI s) z)) 30 (nI s) = nI t' := by
    rw [dub.i 30 rfl hs31]
    exact u2_s _ _ _ _
  refine ⟨⟨s1, fun _ => ?_⟩, ?_⟩
  · rw [← hz]
    refine ⟨?_, ?_⟩
    · rw [d2.1 0 (by decide)]
      exact nI_ne0 (by omega) (by omega)
    · rw [fub, mo_ix_n]
      exact vp_in_nI (by omega) (by decide)
  · unfold mo_un o_it
    rw [ecl, ← hC, ← hB, ← hz]
    unfold mo_u3 o_cnt
    rw [f31, e31, e30, et']
    by_cases q : c - 1 = 0
    · rw [q, if_pos nI_0, if_neg (by rw [nI_0]; exact Int32.lt_irrefl)]
      unfold mo_uc o_bt
      rw [fub, mo_ix_n, dub.i 10 rfl (x := 8 * s + t') (by omega), nI_clamp (n := t') (by omega)]
      have e10 : (an (o_c1 s B) 30 s (nI t')).1 10 (8 * s + t') = (o_c1 s B).1 10 (8 * s + t') := by rw [an_n _ (by decide)]
      rw [e10]
      exact mr_in dub rfl hs31 _
    · rw [if_neg (nI_ne0 (by omega) (by omega)), if_pos (Int32.not_le.mp (nI_nle (by omega) (by omega)))]
      exact d2
theorem np_mo {P : az_P} (hP : az_ok P) {σ : sw_S} {A : az} (hai : ai P A) (h : mr P σ A) {s : Nat} (hs : s < 2) : (gX8_pump (lz P) 0 (nI s) σ).1 ∧ (mo_pv 0 (nI s) σ).1 = (o_pump P s A).1 ∧ mr P (mo_pv 0 (nI s) σ).2 (o_pump P s A).2 := by
  have hp0 := hP.1
  have hp2 := hP.2.2.1
  have hp4 := hP.2.2.2.2.1
  have hf := ai_f hai s
  have eS : (σ 8 0 0).toNatClampNeg = P 0 := by rw [h.1 0 (by decide), nI_clamp (by omega)]
  have e25 := mr_25 h hs
  have e22 := mr_22 h hs
  obtain ⟨tu, et, htu⟩ := hai.v 30 s
  have is1 : ¬ mo_is (nI s) = 0 := by
    rcases (by omega : s = 0 ∨ s = 1) with rfl | rfl
    · decide
    · decide
  have hle : (mi σ 25 (nI s) = σ 8 0 4) ↔ ¬ (A.2.2 (2 * s + 1)).length < P 4 := by
    rw [e25, h.1 4 (by decide)]
    constructor
    · intro z
      have := nI_inj (by omega) (by omega) z
      omega
    · intro z
      congr 1
      omega
  have hwn : (σ 8 0 2 ≤ mi σ 22 (nI s)) ↔ ¬ (A.2.2 (2 * s)).length < P 2 := by
    rw [e22, h.1 2 (by decide), nI_leI (by omega) (by omega)]
    omega
  have htt : ∀ j, j < P 0 → mo_tt 0 (nI s) j σ = nI ((tu + j) % P 0) := fun j hj => tt_n hP h hs et htu (by omega)
  refine ⟨⟨lz_mo P, fun _ => ?_⟩, ?_⟩
  · rw [eS]
    refine ⟨h.1 0 (by decide), by omega, by omega, vp_in_nI hs (by decide), fun c1 => ?_⟩
    have c1 : (A.2.2 (2 * s + 1)).length < P 4 := Decidable.byContradiction (fun z => c1 (hle.mpr z))
    refine ⟨fun c2 => ?_, (ak_go hP hai h hs c1).1⟩
    have c2 : (A.2.2 (2 * s)).length < P 2 := Decidable.byContradiction (fun z => c2 (hwn.mpr z))
    refine ⟨h.1 0 (by decide), by omega, by omega, vp_in_nI hs (by decide), fun j hj => ?_, fun j hj => ?_, fun j hj _ => (gr_go hP hai h hs hj c2 c1).1, fun j hj _ => ?_, (ak_go hP hai h hs c1).1⟩
    · rw [mo_ix_n]
      exact vp_in_nI (by omega) (by decide)
    · rw [htt j hj, mo_ix_n]
      have := Nat.mod_lt (tu + j) (show 0 < P 0 by omega)
      exact vp_in_nI (by omega) (by decide)
    · rw [htt j hj]
      exact (un_go hP hai h hs et htu hj rfl c2 c1).1
  · unfold mo_pv mo_pm o_pump
    rw [eS, if_neg is1]
    by_cases c1 : (A.2.2 (2 * s + 1)).length < P 4
    · rw [if_neg (fun z => hle.mp z c1), if_pos c1]
      by_cases c2 : (A.2.2 (2 * s)).length < P 2
      · rw [if_neg (fun z => hwn.mp z c2), if_pos c2, gs_go h hs (P 0) 0 (by omega)]
        by_cases c3 : o_sg s A (P 0) 0 = -2
        · rw [if_pos c3, if_pos c3]
          rcases ts_go hP hai h hs et htu (P 0) 0 (by omega) tu (fun _ => by rw [Nat.add_zero, Nat.mod_eq_of_lt htu]) with ⟨z1, z2⟩ | ⟨m, hm, z1, z2⟩
          · rw [z1, if_pos rfl, et, z2, if_pos rfl]
            exact (ak_go hP hai h hs c1).2
          · have n1 : ¬ nI m = -2 := fun z => by
              have : (nI m).toInt = (-2 : Int32).toInt := by rw [z]
              rw [nI_toInt (by omega)] at this
              exact absurd this (by show ¬ ((m : Int) = -2); omega)
            have hml := Nat.mod_lt (tu + m) (show 0 < P 0 by omega)
            have n2 : ¬ nI ((tu + m) % P 0) = -2 := fun z => by
              have : (nI ((tu + m) % P 0)).toInt = (-2 : Int32).toInt := by rw [z]
              rw [nI_toInt (by omega)] at this
              exact absurd this (by show ¬ ((((tu + m) % P 0 : Nat) : Int) = -2); omega)
            rw [z1, if_neg n1, et, z2, if_neg n2, nI_clamp (n := m) (by omega), htt m hm]
            exact ⟨rfl, (un_go hP hai h hs et htu hm rfl c2 c1).2⟩
        · rw [if_neg c3, if_neg c3]
          rcases o_sg_of s A (P 0) 0 with z | ⟨t, e, ht, -⟩
          · exact absurd z c3
          · rw [e]
            exact ⟨rfl, (gr_go hP hai h hs (by omega) c2 c1).2⟩
      · rw [if_pos (hwn.mpr c2), if_neg c2]
        exact (ak_go hP hai h hs c1).2
    · rw [if_pos (hle.mpr c1), if_neg c1]
      exact ⟨rfl, h⟩
theorem L_pump {P : az_P} (hP : az_ok P) {σ : sw_S} {A : az} (hai : ai P A) (h : mr P σ A) (i : Int32) : (gX8_pump (lz P) 0 i σ).1 ∧ (mo_pv 0 i σ).1 = (O_pump P i A).1 ∧ mr P (mo_pv 0 i σ).2 (O_pump P i A).2 := by
  rcases dS_of i with ⟨s, hs, he, h1, -, h3⟩ | ⟨h1, -, h3⟩
  · unfold O_pump
    rw [h1, he]
    exact np_mo hP hai h hs
  · unfold gX8_pump O_pump mo_pv mo_pm
    rw [h1, h3, if_pos rfl]
    exact ⟨⟨lz_mo P, fun z => absurd rfl z⟩, rfl, h⟩
theorem ml_go {P : az_P} (hP : az_ok P) {s : Nat} (hs : s < 2) : ∀ (d : Nat) (x : Int32) (σ1 σ : sw_S) (A : az), ai P A → crx P σ1 A → mr P σ A → mo_dq (lz P) 0 (nI s) d σ ∧ (mo_dl 0 (nI s) d x σ).1 = (o_dl P s d x A).1 ∧ mr P (mo_dl 0 (nI s) d x σ).2 (o_dl P s d x A).2
  | 0, x, σ1, σ, A, hai, h1, h => ⟨trivial, rfl, h⟩
  | d + 1, x, σ1, σ, A, hai, h1, h => by
    obtain ⟨a1, a2, a3⟩ := np_ab hP hai h1 hs
    obtain ⟨b1, b2, b3⟩ := np_mo hP hai h hs
    obtain ⟨i1, i2⟩ := ml_go hP hs d (x + 1) _ _ _ a3 a2 b3
    refine ⟨⟨b1, fun _ => i1⟩, ?_⟩
    show (if (mo_pv 0 (nI s) σ).1 = 0 then (x, (mo_pv 0 (nI s) σ).2) else mo_dl 0 (nI s) d (x + 1) (mo_pv 0 (nI s) σ).2).1 = (if (o_pump P s A).1 = 0 then (x, (o_pump P s A).2) else o_dl P s d (x + 1) (o_pump P s A).2).1 ∧ mr P (if (mo_pv 0 (nI s) σ).1 = 0 then (x, (mo_pv 0 (nI s) σ).2) else mo_dl 0 (nI s) d (x + 1) (mo_pv 0 (nI s) σ).2).2 (if (o_pump P s A).1 = 0 then (x, (o_pump P s A).2) else o_dl P s d (x + 1) (o_pump P s A).2).2
    rw [b2]
    by_cases c : (o_pump P s A).1 = 0
    · rw [if_pos c, if_pos c]
      exact ⟨rfl, b3⟩
    · rw [if_neg c, if_neg c]
      exact i2
theorem L_drain {P : az_P} (hP : az_ok P) {σ1 σ : sw_S} {A : az} (hai : ai P A) (hc : crx P σ1 A) (h : mr P σ A) (i n : Int32) : (gX8_drain (lz P) 0 i n σ).1 ∧ (mo_dn 0 i n σ).1 = (O_drain P i n A).1 ∧ mr P (mo_dn 0 i n σ).2 (O_drain P i n A).2 := by
  rcases dS_of i with ⟨s, hs, he, h1, -, h3⟩ | ⟨h1, -, h3⟩
  · unfold gX8_drain O_drain mo_dn
    rw [h1, h3, if_neg (by decide), he]
    refine ⟨fun _ => (ml_go hP hs _ 0 σ1 σ A hai hc h).1, ?_⟩
    dsimp only
    by_cases a1 : n < 0
    · rw [if_pos a1, if_pos a1]
      exact ⟨rfl, h⟩
    · rw [if_neg a1, if_neg a1]
      by_cases a2 : n ≤ 1000
      · rw [if_pos a2, if_pos a2]
        exact (ml_go hP hs _ 0 σ1 σ A hai hc h).2
      · rw [if_neg a2, if_neg a2]
        exact ⟨rfl, h⟩
  · unfold gX8_drain O_drain mo_dn
    rw [h1, h3, if_pos rfl]
    exact ⟨fun z => absurd rfl z, rfl, h⟩
