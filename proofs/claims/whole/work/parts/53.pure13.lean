/-! The pure part: deliver of the class, on -/
theorem su_lt {f g : Nat → Nat} : ∀ {n i : Nat}, i < n → (∀ j, j < n → f j ≤ g j) → f i < g i → su n f < su n g
  | n + 1, i, hi, h, hl => by
    show su n f + f n < su n g + g n
    have h1 := su_mono (f := f) (g := g) (n := n) (fun j hj => h j (by omega))
    by_cases hn : i = n
    · subst hn
      omega
    · have := su_lt (f := f) (g := g) (n := n) (i := i) (by omega) (fun j hj => h j (by omega)) hl
      have := h n (by omega)
      omega
theorem ct_ab {P : az_P} (hP : az_ok P) {σ : sw_S} {A : az} {Q SP : Nat → List Nat} (h : cr P σ A Q SP) {f : Nat} {w : Int32 → Int32} (hw : fr_at σ f = w) (x : Nat) : fl_ct x f σ = o_ca P x w A := by
  have l1 := (cr_len hP h (b := 1) x (by decide)).1
  unfold fl_ct o_ca fl_cb o_cb fr_kd fr_ct
  rw [hw, l1, h.1.1 x, h.1.2 x 3 (by decide) (by decide), h.1.2 x 5 (by decide) (by decide), h.1.2 x 6 (by decide) (by decide), h.1.2 x 9 (by decide) (by decide), h.1.2 x 10 (by decide) (by decide)]
  rfl
theorem wmk_b (w : Int32 → Int32) (i : Int32) : sw_bo (wmk w i) := by
  unfold wmk
  split
  · exact Or.inr rfl
  · exact Or.inl rfl
theorem o_items_len (w : Int32 → Int32) (n : Nat) : (o_items w n).length = n := by
  unfold o_items
  rw [List.length_map, List.length_range]
theorem o_items_s (w : Int32 → Int32) (n : Nat) : o_items w (n + 1) = o_items w n ++ [(w (2 + nI n), wmk w (nI n))] := by
  unfold o_items
  rw [List.range_succ, List.map_append]
  rfl
theorem o_items_b (w : Int32 → Int32) (n : Nat) : ∀ p ∈ o_items w n, sw_bo p.2 := by
  intro p hp
  obtain ⟨j, -, rfl⟩ := List.mem_map.mp hp
  exact wmk_b w (nI j)
theorem aiQ_items {P : az_P} {A : az} (h : aiQ P A.2.1) {x : Nat} (hx : x % 8 < P 0) (hx2 : x < 16) (w : Int32 → Int32) (n : Nat) : aiQ P (aq A 1 x (A.2.1 1 x ++ o_items w n)).2.1 := by
  refine ⟨fun s => ?_, fun b x' => ?_⟩
  · refine Nat.le_trans (Nat.le_of_eq (su_congr (fun t _ => ?_))) (h.1 s)
    show (u2 A.2.1 1 x (A.2.1 1 x ++ o_items w n) 0 (8 * s + t)).length = _
    rw [u2_n _ _ (fun z => absurd z.1 (by decide))]
  · show (P 0 ≤ x' % 8 ∨ 16 ≤ x' → u2 A.2.1 1 x (A.2.1 1 x ++ o_items w n) b x' = []) ∧ ∀ p ∈ u2 A.2.1 1 x (A.2.1 1 x ++ o_items w n) b x', sw_bo p.2
    by_cases hb : b = 1 ∧ x' = x
    · rw [hb.1, hb.2, u2_s]
      refine ⟨fun z => by omega, fun p hp => ?_⟩
      rcases List.mem_append.mp hp with hp | hp
      · exact (h.2 1 x).2 p hp
      · exact o_items_b w n p hp
    · rw [u2_n _ _ hb]
      exact h.2 b x'
theorem aq_aq (A : az) (b x : Nat) (l l' : List (Int32 × Int32)) : aq (aq A b x l) b x l' = aq A b x l' := by
  unfold aq
  rw [u2_u2]
theorem ld_ab {P : az_P} (hP : az_ok P) {σ : sw_S} {A : az} {Q SP : Nat → List Nat} (hai : ai P A) (h : cr P σ A Q SP) {f x N : Nat} (hx : x % 8 < P 0) (hx2 : x < 16) {w : Int32 → Int32} (hw : fr_at σ f = w) (hN : (A.2.1 1 x).length + N ≤ P 5) : ∀ n : Nat, n ≤ N → crx P (fl_ld (lz P) x f n σ) (aq A 1 x (A.2.1 1 x ++ o_items w n))
  | 0, _ => by
    have e : aq A 1 x (A.2.1 1 x ++ o_items w 0) = A := by
      show aq A 1 x (A.2.1 1 x ++ []) = A
      rw [List.append_nil]
      unfold aq
      rw [u2_self]
    rw [e]
    exact ⟨Q, SP, h⟩
  | n + 1, hn => by
    obtain ⟨Q', SP', ih⟩ := ld_ab hP hai h hx hx2 hw hN n (by omega)
    have hq := aiQ_items hai.2.2.1 hx hx2 w n
    obtain ⟨B, hB⟩ : ∃ B, B = aq A 1 x (A.2.1 1 x ++ o_items w n) := ⟨_, rfl⟩
    rw [← hB] at ih hq
    have hB1 : B.2.1 1 x = A.2.1 1 x ++ o_items w n := by rw [hB]; exact u2_s _ _ _ _
    have hlt : su (P 0) (fun t => (B.2.1 1 (8 * (x / 8) + t)).length) < P 0 * P 5 := by
      rw [← su_const (P 5) (P 0)]
      refine su_lt (i := x % 8) hx (fun j hj => ?_) ?_
      · by_cases hj2 : 8 * (x / 8) + j = x
        · rw [hj2, hB1, List.length_append, o_items_len]
          omega
        · rw [hB]
          show (u2 A.2.1 1 x _ 1 (8 * (x / 8) + j)).length ≤ P 5
          rw [u2_n _ _ (fun z => hj2 z.2)]
          obtain ⟨d, -, hd⟩ := hai.v 9 (8 * (x / 8) + j)
          omega
      · show (B.2.1 1 (8 * (x / 8) + x % 8)).length < P 5
        rw [show 8 * (x / 8) + x % 8 = x by omega, hB1, List.length_append, o_items_len]
        omega
    have h0 := hq.1 (x / 8)
    obtain ⟨c, l, hc⟩ := cr_spare hP ih hq (s := x / 8) (by unfold az_rm; omega)
    have hp := cr_put1 hP ih (b := 1) (w := x) (by decide) hc (w (2 + nI n)) (wmk w (nI n))
    have e1 : fr_at (fl_ld (lz P) x f n σ) f = w := (fl_ld_fr (lz P) x f n σ f).trans hw
    have e2 : fl_ld (lz P) x f (n + 1) σ = qu_pu (lz P) (2 * x + 1) (w (2 + nI n)) (wmk w (nI n)) (fl_ld (lz P) x f n σ) := by
      show qu_pu (lz P) (2 * x + 1) (fr_at (fl_ld (lz P) x f n σ) f (2 + nI n)) (fr_mk (fl_ld (lz P) x f n σ) f (nI n)) (fl_ld (lz P) x f n σ) = _
      unfold fr_mk
      rw [e1]
      rfl
    rw [e2, o_items_s, ← List.append_assoc]
    rw [hB1, hB, aq_aq] at hp
    exact hp
theorem cr_bo {P : az_P} {σ : sw_S} {A : az} {Q SP : Nat → List Nat} (h : cr P σ A Q SP) (x : Nat) : cr P (fl_bo x σ) (an (an A 6 x 1) 8 x (nI (P 5))) Q SP := by
  have e2 : fl_bo x σ = sw_up (sw_up σ 1 x 3 1) 1 x 5 (nI (P 5)) := by
    unfold fl_bo
    rw [sw_ups, u2_n _ _ (fun z => absurd z.2 (by decide)), h.1.1]
  rw [e2]
  exact cr_1 (cr_1 h x (j := 3) 1 (by decide) (by decide)) x (j := 5) (nI (P 5)) (by decide) (by decide)
theorem ai_to {P : az_P} (hP : az_ok P) {A : az} (h : ai P A) (x : Nat) : ai P (o_to P x A) := by
  unfold o_to
  split
  · have h1 : ai P (an A 6 x 1) := ai_an h trivial
    exact ai_an h1 ⟨P 5, rfl, Nat.le_refl _⟩
  · exact h
theorem ai_grow {P : az_P} {A : az} (h : ai P A) {x d : Nat} (hx : x % 8 < P 0) (hx2 : x < 16) (w : Int32 → Int32) (n : Nat) (hd : A.1 9 x = nI d) (hdn : d + ((A.2.1 1 x).length + n) ≤ P 5) : ai P (aq A 1 x (A.2.1 1 x ++ o_items w n)) := by
  refine ai_iff.mpr ⟨fun j x' => ?_, aiQ_items h.2.2.1 hx hx2 w n, h.2.2.2⟩
  show okv P (u2 A.2.1 1 x (A.2.1 1 x ++ o_items w n)) j x' (A.1 j x')
  by_cases hxx : x' = x
  · subst hxx
    by_cases hj : j = 9
    · subst hj
      refine ⟨d, hd, ?_⟩
      rw [u2_s, List.length_append, o_items_len]
      exact hdn
    · have := h.v j x'
      unfold okv at this ⊢
      split at this
      all_goals first | exact this | exact absurd rfl hj
  · refine okv_q (h.v j x') ?_
    rw [u2_n _ _ (fun z => hxx z.2)]
    exact Nat.le_refl _
theorem tk_ab {P : az_P} (hP : az_ok P) {σ : sw_S} {A : az} {Q SP : Nat → List Nat} (hai : ai P A) (h : cr P σ A Q SP) {f x : Nat} (hx : x % 8 < P 0) (hx2 : x < 16) {w : Int32 → Int32} (hw : fr_at σ f = w) (hsk : ¬ wsk P w = 0) (hca : ¬ o_ca P x w A = 0) : crx P (fl_tk (lz P) x f σ) (o_tk P x w A) ∧ ai P (o_tk P x w A) ∧ (o_tk P x w A).2.2 = A.2.2 := by
  have hp1 := hP.2.1
  have hp5 := hP.2.2.2.2.2
  unfold fl_tk o_tk fr_kd fr_ct
  unfold o_ca at hca
  rw [hw]
  by_cases k1 : wkd w = 1
  · rw [if_pos k1] at hca
    rw [if_pos k1, if_pos k1]
    obtain ⟨n, hn, en⟩ := sw_ushr24 (w 0)
    obtain ⟨d, ed, hd⟩ := hai.v 9 x
    have hb : ¬ o_cb x A = 0 := fun z => by rw [if_pos z] at hca; exact hca rfl
    rw [if_neg hb] at hca
    have hl : ¬ nI (P 5) - nI (A.2.1 1 x).length - A.1 9 x < wct w := fun z => by rw [if_pos z] at hca; exact hca rfl
    rw [show wct w = nI n from en, ed, i32_ss, nI_add, nI_sub (by omega), nI_ltI (by omega) (by omega)] at hl
    have en2 : (sw_ushr (w 0) 24).toNatClampNeg = n := by rw [en, nI_clamp (by omega)]
    show crx P (fl_ld (lz P) x f (sw_ushr (w 0) 24).toNatClampNeg σ) (aq A 1 x (A.2.1 1 x ++ o_items w (sw_ushr (w 0) 24).toNatClampNeg)) ∧ ai P (aq A 1 x (A.2.1 1 x ++ o_items w (sw_ushr (w 0) 24).toNatClampNeg)) ∧ _
    rw [en2]
    exact ⟨ld_ab hP hai h hx hx2 hw (N := n) (by omega) n (Nat.le_refl _), ai_grow hai hx hx2 w n ed (by omega), rfl⟩
  · rw [if_neg k1] at hca
    rw [if_neg k1, if_neg k1]
    by_cases k2 : wkd w = 2
    · rw [if_pos k2] at hca
      rw [if_pos k2, if_pos k2]
      obtain ⟨c, ec, hc⟩ := hai.v 8 x
      have hb : ¬ A.1 6 x = 0 := fun z => by rw [if_pos z] at hca; exact hca rfl
      rw [if_neg hb] at hca
      have hl : ¬ nI (P 5) - A.1 8 x < w 1 := fun z => by rw [if_pos z] at hca; exact hca rfl
      have hw1 := (wsk_2 hsk k2).2
      obtain ⟨m, hm, em⟩ := nI_of (x := w 1) (fun z => hw1 (Int32.le_of_lt z))
      rw [em, ec, nI_sub (by omega), nI_ltI (by omega) (by omega)] at hl
      have e5 : σ 1 x 5 = A.1 8 x := h.1.2 _ 5 (by decide) (by decide)
      rw [e5]
      refine ⟨⟨Q, SP, cr_1 h x (j := 5) _ (by decide) (by decide)⟩, ?_, rfl⟩
      exact ai_an hai ⟨c + m, by rw [em, ec, nI_add], by omega⟩
    · rw [if_neg k2] at hca
      rw [if_neg k2, if_neg k2]
      by_cases k3 : wkd w = 3
      · rw [if_pos k3, if_pos k3]
        have h1 := cr_1 h x (j := 10) 1 (by decide) (by decide)
        have a1 : ai P (an A 13 x 1) := ai_an hai (Or.inr rfl)
        have e3 : sw_up σ 1 x 10 1 1 x 3 = (an A 13 x 1).1 6 x := h1.1.2 _ 3 (by decide) (by decide)
        rw [e3]
        refine ⟨?_, ai_to hP a1 x, ?_⟩
        · unfold o_to
          by_cases c6 : (an A 13 x 1).1 6 x = 0
          · rw [if_pos c6, if_pos c6]
            exact ⟨Q, SP, cr_bo h1 x⟩
          · rw [if_neg c6, if_neg c6]
            exact ⟨Q, SP, h1⟩
        · unfold o_to
          split <;> rfl
      · rw [if_neg k3, if_neg k3]
        by_cases k4 : wkd w = 4
        · rw [if_pos k4, if_pos k4]
          exact ⟨⟨Q, SP, cr_1 h x (j := 9) 1 (by decide) (by decide)⟩, ai_an hai (Or.inr rfl), rfl⟩
        · rw [if_neg k4, if_neg k4]
          exact ⟨⟨Q, SP, h⟩, hai, rfl⟩
theorem rf_ab {P : az_P} {σ : sw_S} {A : az} (hai : ai P A) (h : crx P σ A) (u : Nat) : (sd_rf u σ).1 = (o_rf u A).1 ∧ crx P (sd_rf u σ).2 (o_rf u A).2 ∧ ai P (o_rf u A).2 ∧ (o_rf u A).2.2.2 = A.2.2 := by
  obtain ⟨Q, SP, h⟩ := h
  refine ⟨rfl, ?_, ai_an hai trivial, rfl⟩
  unfold sd_rf o_rf
  rw [show σ 6 u 13 = A.1 35 u from h.2.1 u 13 (by decide) (by decide)]
  exact ⟨Q, SP, cr_6 h u (j := 13) _ (by decide) (by decide)⟩
theorem o_nx_of {P : az_P} (hP : az_ok P) {v : Nat} (hv : v ≤ P 2) : ∃ m : Nat, o_nx P (nI v) = nI m ∧ m ≤ P 2 ∧ m = (if v + 1 ≤ P 2 then v + 1 else 0) := by
  have hp := hP.2.2.1
  unfold o_nx
  rw [nI_1]
  by_cases hc : v + 1 ≤ P 2
  · rw [if_pos (nI_le hc (by omega)), if_pos hc]
    exact ⟨v + 1, rfl, hc, rfl⟩
  · rw [if_neg (nI_ge (by omega) (by omega)), if_neg hc, nI_sub (by omega), show (1 : Int32) = nI 1 from rfl, nI_sub (by omega)]
    exact ⟨0, by congr 1; omega, by omega, rfl⟩
theorem m12_ab {P : az_P} (hP : az_ok P) {σ : sw_S} {A : az} (hai : ai P A) (h : crx P σ A) (u : Nat) : crx P (sd_m2 u (sd_m1 u σ)) (o_m2 u (o_m1 P u A)) ∧ ai P (o_m2 u (o_m1 P u A)) := by
  obtain ⟨Q, SP, h⟩ := h
  obtain ⟨v, e1, hv⟩ := hai.v 29 u
  have h1 : cr P (sd_m1 u σ) (o_m1 P u A) Q SP := by
    unfold sd_m1 o_m1 li_nb o_nx
    rw [h.2.2.1 2 (by decide), show σ 6 u 6 = A.1 29 u from h.2.1 u 6 (by decide) (by decide)]
    exact cr_6 h u (j := 6) _ (by decide) (by decide)
  have a1 : ai P (o_m1 P u A) := by
    unfold o_m1
    rw [e1]
    obtain ⟨m, em, hm, -⟩ := o_nx_of hP hv
    exact ai_an hai ⟨m, em, hm⟩
  refine ⟨?_, ?_⟩
  · unfold sd_m2 o_m2
    rw [show sd_m1 u σ 6 u 12 = (o_m1 P u A).1 34 u from h1.2.1 u 12 (by decide) (by decide)]
    exact ⟨Q, SP, cr_6 (cr_6 h1 u (j := 12) _ (by decide) (by decide)) u (j := 9) 1 (by decide) (by decide)⟩
  · have a2 : ai P (an (o_m1 P u A) 34 u ((o_m1 P u A).1 34 u + 1)) := ai_an a1 trivial
    exact ai_an a2 (Or.inr rfl)
theorem ma_ab {P : az_P} (hP : az_ok P) {σ : sw_S} {A : az} {Q SP : Nat → List Nat} (hai : ai P A) (h : cr P σ A Q SP) {u f t : Nat} (hu : u < 2) {w : Int32 → Int32} (hw : fr_at σ f = w) (hsn : wsn w = nI t) (ht : t < P 0) (hsk : ¬ wsk P w = 0) : (sd_ma (lz P) u f σ).1 = (o_ma P u w A).1 ∧ crx P (sd_ma (lz P) u f σ).2 (o_ma P u w A).2 ∧ ai P (o_ma P u w A).2 ∧ (o_ma P u w A).2.2.2 = A.2.2 := by
  have hp0 := hP.1
  unfold sd_ma o_ma fr_kd fr_nu fr_sn
  rw [hw]
  by_cases k0 : wkd w = 0
  · rw [if_pos k0, if_pos k0]
    exact ⟨rfl, ⟨Q, SP, h⟩, hai, rfl⟩
  · rw [if_neg k0, if_neg k0, show σ 6 u 6 = A.1 29 u from h.2.1 u 6 (by decide) (by decide)]
    by_cases c1 : wnu w = A.1 29 u
    · have c1' : wnu w = A.1 (gm 6) u := c1
      rw [if_pos c1, if_pos c1]
      have e1 : sd_fa (lz P) u (wsn w) = some (1, 8 * u + t) := by
        unfold sd_fa
        rw [hsn, if_neg (nI_pos (by omega)), if_neg (nI_ge (by show t < P 0; exact ht) (by show P 0 < 2 ^ 31; omega)), nI_clamp (by omega)]
      rw [e1, hsn, nI_clamp (by omega)]
      unfold sd_mw o_mw
      show (if fl_ct (8 * u + t) f σ = 0 then sd_rf u σ else (1, sd_m2 u (sd_m1 u (fl_tk (lz P) (8 * u + t) f σ)))).1 = _ ∧ crx P (if fl_ct (8 * u + t) f σ = 0 then sd_rf u σ else (1, sd_m2 u (sd_m1 u (fl_tk (lz P) (8 * u + t) f σ)))).2 _ ∧ _
      rw [ct_ab hP h hw]
      by_cases c2 : o_ca P (8 * u + t) w A = 0
      · rw [if_pos c2, if_pos c2]
        exact rf_ab hai ⟨Q, SP, h⟩ u
      · rw [if_neg c2, if_neg c2]
        obtain ⟨b1, b2, b3⟩ := tk_ab hP hai h (x := 8 * u + t) (by omega) (by omega) hw hsk c2
        obtain ⟨d1, d2⟩ := m12_ab hP b2 b1 u
        exact ⟨rfl, d1, d2, b3⟩
    · rw [if_neg c1, if_neg c1]
      refine ⟨rfl, ?_, ?_, rfl⟩
      · show crx P (sd_m4 u σ) (o_m4 u A)
        unfold sd_m4 o_m4
        rw [show σ 6 u 14 = A.1 36 u from h.2.1 u 14 (by decide) (by decide)]
        exact ⟨Q, SP, cr_6 (cr_6 h u (j := 14) _ (by decide) (by decide)) u (j := 9) 1 (by decide) (by decide)⟩
      · have a2 : ai P (an A 36 u (A.1 36 u + 1)) := ai_an hai trivial
        exact ai_an a2 (Or.inr rfl)
theorem mp_ab {P : az_P} (hP : az_ok P) {σ : sw_S} {A : az} {Q SP : Nat → List Nat} (hai : ai P A) (h : cr P σ A Q SP) {u f : Nat} (hu : u < 2) {l : List Int32} (hf : cFr (σ 2) (σ 12) f l) (hl : 2 ≤ l.length ∧ l.length ≤ P 1 + 3) : (gX6_meet (lz P) u f σ).1 ∧ (sd_mp (lz P) u f σ).1 = (o_meet P u l A).1 ∧ crx P (sd_mp (lz P) u f σ).2 (o_meet P u l A).2 ∧ ai P (o_meet P u l A).2 ∧ ∀ r, ¬ r = 2 * u → (o_meet P u l A).2.2.2 r = A.2.2 r := by
  have hp1 := hP.2.1
  have ew := cFr_la hf (by omega)
  have eso := fr_so_ab hP h hf hl.2
  have erl : 0 ≤ fr_rl σ f := by
    unfold fr_rl
    rw [hf.1, show (1 : Int32) = nI 1 from rfl, nI_sub (by omega)]
    exact nI_pos' (by omega)
  have ewa : fr_wa σ f = wwa (la l) := by
    unfold fr_wa
    rw [ew]
  unfold gX6_meet sd_mp o_meet
  rw [eso, ewa]
  by_cases c1 : o_so P l = 0
  · rw [if_pos c1, if_pos c1]
    obtain ⟨b1, b2, b3, b4⟩ := rf_ab hai ⟨Q, SP, h⟩ u
    exact ⟨⟨lz_lo hP, h.2.2.2.2.2, erl, fun z => absurd c1 z⟩, b1, b2, b3, fun r _ => by rw [b4]⟩
  · rw [if_neg c1, if_neg c1]
    obtain ⟨t, v, e1, ht, e2, hv⟩ := o_so_nat hP c1
    rw [e2]
    obtain ⟨d1, d2, d3, d4, d5⟩ := se_ab hP hai h u hv
    have ew2 : fr_at (sd_se (lz P) u (nI v) σ) f = la l := by
      rw [← ew]
      exact fr_at_eq (fun j => by rw [d4 2 (by decide) (by decide)]) (fun j => by rw [d4 12 (by decide) (by decide)])
    obtain ⟨b1, b2, b3, b4⟩ := ma_ab hP d3 d2 hu ew2 e1 ht (o_so_of c1).2.2.2.2.2
    exact ⟨⟨lz_lo hP, h.2.2.2.2.2, erl, fun _ => d1⟩, b1, b2, b3, fun r hr => by rw [b4]; exact d5 r hr⟩
def o_dv (P : az_P) (s : Nat) (A : az) : List (List Int32) → Int32 × az
  | [] => (0, A)
  | l :: ls => ((o_meet P (1 - s) l A).1, af (o_meet P (1 - s) l A).2 (2 * s + 1) ls)
def O_deliver (P : az_P) (i : Int32) (A : az) : Int32 × az := match dS i with
  | none => (-1, A)
  | some s => o_dv P s A (A.2.2 (2 * s + 1))
theorem wi_sa_o {s : Nat} (hs : s < 2) : wi_sa (1 - nI s) = some (6, 1 - s) := by
  match s, hs with
  | 0, _ => rfl
  | 1, _ => rfl
theorem aiF_tl {P : az_P} {f : az_f} (hF : aiF P f) {r : Nat} {l : List Int32} {ls : List (List Int32)} (hl : f r = l :: ls) : aiF P (u1 f r ls) := by
  have := aiF_drop hF r 1
  rw [hl] at this
  exact this
theorem K_deliver {P : az_P} (hP : az_ok P) {σ : sw_S} {A : az} (hai : ai P A) (h : crx P σ A) (i : Int32) : (gX7_deliver (lz P) 0 i σ).1 ∧ (wi_de (lz P) i σ).1 = (O_deliver P i A).1 ∧ crx P (wi_de (lz P) i σ).2 (O_deliver P i A).2 ∧ ai P (O_deliver P i A).2 := by
  obtain ⟨Q, SP, h⟩ := h
  rcases dS_of i with ⟨s, hs, he, h1, h2, h3⟩ | ⟨h1, h2, h3⟩
  · unfold gX7_deliver O_deliver wi_de
    have ho := wi_sa_o hs
    rw [← he] at ho
    rw [h1, h2, ho]
    show (_ ∧ ∀ s' u f, _ → _ → rg_fa (lz P) (2 * s' + 1) 0 σ = some (2, f) → _) ∧ (sd_om (0, σ) (fun f => wi_ef (lz P) s (1 - s) f.2 σ) (rg_fa (lz P) (2 * s + 1) 0 σ)).1 = (o_dv P s A (A.2.2 (2 * s + 1))).1 ∧ crx P (sd_om (0, σ) (fun f => wi_ef (lz P) s (1 - s) f.2 σ) (rg_fa (lz P) (2 * s + 1) 0 σ)).2 (o_dv P s A (A.2.2 (2 * s + 1))).2 ∧ ai P (o_dv P s A (A.2.2 (2 * s + 1))).2
    match hq : A.2.2 (2 * s + 1) with
    | [] =>
      have hn := rg_fa_no hP h.2.2.2.2.1 (r := 2 * s + 1) (x := 0) (by rw [hq]; exact Or.inr (by decide))
      rw [hn]
      refine ⟨⟨lz_lo hP, fun s' u f a b c => ?_⟩, rfl, ⟨Q, SP, h⟩, hai⟩
      have : s' = s := by injection a with a; injection a with _ a; exact a.symm
      subst this
      rw [hn] at c
      exact absurd c (by intro z; cases z)
    | l :: ls =>
      obtain ⟨k, k1, k2, k3⟩ := rg_fa_go hP h.2.2.2.2.1 (r := 2 * s + 1) (n := 0) (by rw [hq, List.length_cons]; omega)
      rw [nI_0] at k1
      rw [hq] at k2
      have k2 : cFr (σ 2) (σ 12) k l := k2
      have hm := ((hai.2.2.2.2 (2 * s + 1)).2 l (by rw [hq]; exact List.mem_cons_self)).1
      obtain ⟨b0, b1, b2, b3, b4⟩ := mp_ab hP hai h (u := 1 - s) (by omega) k2 hm
      rw [k1]
      refine ⟨⟨lz_lo hP, fun s' u f a b c => ?_⟩, ?_⟩
      · have e1 : s' = s := by injection a with a; injection a with _ a; exact a.symm
        have e2 : u = 1 - s := by injection b with b; injection b with _ b; exact b.symm
        subst e1
        subst e2
        rw [k1] at c
        have e3 : f = k := by injection c with c; injection c with _ c; exact c.symm
        subst e3
        exact b0
      · show (sd_mp (lz P) (1 - s) k σ).1 = (o_meet P (1 - s) l A).1 ∧ crx P (gX3_dropFirst (lz P) (2 * s + 1) (sd_mp (lz P) (1 - s) k σ).2).2.2 (af (o_meet P (1 - s) l A).2 (2 * s + 1) ls) ∧ ai P (af (o_meet P (1 - s) l A).2 (2 * s + 1) ls)
        obtain ⟨Q2, SP2, b2⟩ := b2
        have hq2 : (o_meet P (1 - s) l A).2.2.2 (2 * s + 1) = l :: ls := by rw [b4 _ (by omega), hq]
        obtain ⟨-, c2, c3⟩ := rg_df_go hP b2.2.2.2.2.1 hq2
        refine ⟨b1, ⟨Q2, SP2, cr_r b2 c2 (fg_eq b2.2.2.2.2.2 (fun k => by rw [c3 2 (by decide)])) (fun c _ _ hc => c3 c hc)⟩, ?_⟩
        exact ai_af b3 (aiF_tl b3.2.2.2 hq2)
  · unfold gX7_deliver O_deliver wi_de
    rw [h1, h2]
    refine ⟨⟨lz_lo hP, fun s u f a => ?_⟩, ?_⟩
    · exact absurd a (by intro z; cases z)
    · have : wi_em (lz P) σ none (wi_sa (1 - i)) = (-1, σ) := by cases wi_sa (1 - i) <;> rfl
      rw [this]
      exact ⟨rfl, ⟨Q, SP, h⟩, hai⟩
