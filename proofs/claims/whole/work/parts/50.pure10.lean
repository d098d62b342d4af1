/-! The pure part: what stays true of the abstract state; pump and drain of the class -/
def okv (P : az_P) (q : az_q) (j x : Nat) (v : Int32) : Prop := match j with
  | 7 => sw_bo v
  | 11 => sw_bo v
  | 12 => sw_bo v
  | 13 => sw_bo v
  | 32 => sw_bo v
  | 8 => ∃ c : Nat, v = nI c ∧ c ≤ P 5
  | 9 => ∃ d : Nat, v = nI d ∧ d + (q 1 x).length ≤ P 5
  | 10 => ∃ w : Nat, v = nI w ∧ 1 ≤ w ∧ w ≤ 4
  | 28 => ∃ o : Nat, v = nI o ∧ o ≤ P 2
  | 29 => ∃ o : Nat, v = nI o ∧ o ≤ P 2
  | 30 => ∃ t : Nat, v = nI t ∧ t < P 0
  | 31 => ∃ c : Nat, v = nI c ∧ 1 ≤ c ∧ c ≤ 4
  | _ => True
theorem ai_iff {P : az_P} {A : az} : ai P A ↔ (∀ j x, okv P A.2.1 j x (A.1 j x)) ∧ aiQ P A.2.1 ∧ aiF P A.2.2 := by
  constructor
  · intro h
    refine ⟨fun j x => ?_, h.2.2⟩
    have hx := h.1 x
    have hs := h.2.1 x
    unfold okv
    split
    · exact hx.1.1
    · exact hx.1.2.1
    · exact hx.1.2.2.1
    · exact hx.1.2.2.2
    · exact hs.1
    · exact hx.2.1
    · exact hx.2.2.1
    · exact hx.2.2.2
    · exact hs.2.2.2.1
    · exact hs.2.2.2.2
    · exact hs.2.1
    · exact hs.2.2.1
    · trivial
  · intro h
    exact ⟨fun x => ⟨⟨h.1 7 x, h.1 11 x, h.1 12 x, h.1 13 x⟩, h.1 8 x, h.1 9 x, h.1 10 x⟩, fun s => ⟨h.1 32 s, h.1 30 s, h.1 31 s, h.1 28 s, h.1 29 s⟩, h.2⟩
theorem ai.v {P : az_P} {A : az} (h : ai P A) (j x : Nat) : okv P A.2.1 j x (A.1 j x) := (ai_iff.mp h).1 j x
theorem ai_an {P : az_P} {A : az} (h : ai P A) {j x : Nat} {v : Int32} (hv : okv P A.2.1 j x v) : ai P (an A j x v) := by
  refine ai_iff.mpr ⟨fun j' x' => ?_, (ai_iff.mp h).2⟩
  show okv P A.2.1 j' x' (u2 A.1 j x v j' x')
  by_cases hj : j' = j ∧ x' = x
  · rw [hj.1, hj.2, u2_s]
    exact hv
  · rw [u2_n _ _ hj]
    exact h.v j' x'
theorem okv_q {P : az_P} {q q' : az_q} {j x : Nat} {v : Int32} (h : okv P q j x v) (hq : (q' 1 x).length ≤ (q 1 x).length) : okv P q' j x v := by
  unfold okv at h ⊢
  split at h
  · exact h
  · exact h
  · exact h
  · exact h
  · exact h
  · exact h
  · obtain ⟨d, h1, h2⟩ := h
    exact ⟨d, h1, by omega⟩
  · exact h
  · exact h
  · exact h
  · exact h
  · exact h
  · trivial
theorem ai_aq {P : az_P} {A : az} (h : ai P A) {b x : Nat} {l : List (Int32 × Int32)} (h1 : b = 1 → l.length ≤ (A.2.1 1 x).length) (h0 : b = 0 → l.length ≤ (A.2.1 0 x).length) (hm : ∀ p ∈ l, p ∈ A.2.1 b x) : ai P (aq A b x l) := by
  have hl : ∀ b' x', (u2 A.2.1 b x l b' x').length ≤ (A.2.1 b' x').length ∨ (¬ b' = 0 ∧ ¬ b' = 1) := fun b' x' => by
    by_cases hb : b' = b ∧ x' = x
    · rw [hb.1, hb.2, u2_s]
      by_cases b0 : b = 0
      · left; have := h0 b0; rw [b0]; exact this
      · by_cases b1 : b = 1
        · left; have := h1 b1; rw [b1]; exact this
        · exact Or.inr ⟨b0, b1⟩
    · rw [u2_n _ _ hb]
      exact Or.inl (Nat.le_refl _)
  refine ai_iff.mpr ⟨fun j' x' => ?_, ⟨fun s => ?_, fun b' x' => ?_⟩, (ai_iff.mp h).2.2⟩
  · refine okv_q (h.v j' x') ?_
    rcases hl 1 x' with h' | h'
    · exact h'
    · exact absurd rfl h'.2
  · refine Nat.le_trans (su_mono (fun t _ => ?_)) (h.2.2.1.1 s)
    rcases hl 0 (8 * s + t) with h' | h'
    · exact h'
    · exact absurd rfl h'.1
  · have hb := h.2.2.1.2 b' x'
    show (P 0 ≤ x' % 8 ∨ 16 ≤ x' → u2 A.2.1 b x l b' x' = []) ∧ ∀ p ∈ u2 A.2.1 b x l b' x', sw_bo p.2
    by_cases hc : b' = b ∧ x' = x
    · rw [hc.1, hc.2, u2_s]
      rw [hc.1, hc.2] at hb
      refine ⟨fun hz => ?_, fun p hp => hb.2 p (hm p hp)⟩
      have hnil := hb.1 hz
      match l, hm with
      | [], _ => rfl
      | p :: l, hm =>
        have := hm p List.mem_cons_self
        rw [hnil] at this
        exact absurd this List.not_mem_nil
    · rw [u2_n _ _ hc]
      exact hb
theorem ai_af {P : az_P} {A : az} (h : ai P A) {r : Nat} {l : List (List Int32)} (hF : aiF P (u1 A.2.2 r l)) : ai P (af A r l) := ⟨h.1, h.2.1, h.2.2.1, hF⟩
theorem o_nb_of {P : az_P} (hP : az_ok P) {A : az} (h : ai P A) (s : Nat) (ho : (A.2.2 (2 * s)).length ≤ P 2) : ∃ o n : Nat, A.1 28 s = nI o ∧ o ≤ P 2 ∧ o_nb P s A = nI n ∧ n ≤ P 2 ∧ n = (if o + (A.2.2 (2 * s)).length ≤ P 2 then o + (A.2.2 (2 * s)).length else o + (A.2.2 (2 * s)).length - P 2 - 1) := by
  have hp := hP.2.2.1
  obtain ⟨o, h1, h2⟩ := h.v 28 s
  refine ⟨o, _, h1, h2, ?_, ?_, rfl⟩
  · unfold o_nb
    rw [h1, nI_add]
    by_cases hc : o + (A.2.2 (2 * s)).length ≤ P 2
    · rw [if_pos (nI_le hc (by omega)), if_pos hc]
    · rw [if_neg (nI_ge (by omega) (by omega)), if_neg hc, nI_sub (by omega), show (1 : Int32) = nI 1 from rfl, nI_sub (by omega)]
  · split <;> omega
theorem o_hd_ct {P : az_P} (hP : az_ok P) {A : az} (h : ai P A) {s k t : Nat} (ho : (A.2.2 (2 * s)).length ≤ P 2) (hk : k < 8) (ht : t < 8) : sw_ushr (o_hd P s (nI k) (nI t) 0 A) 24 = 0 := by
  have hp := hP.2.2.1
  obtain ⟨o, n, -, -, h1, h2, -⟩ := o_nb_of hP h s ho
  obtain ⟨v, h3, h4⟩ := h.v 29 s
  unfold o_hd
  rw [h1, h3]
  exact fh_ct hk (by omega) (by omega) (by omega)
theorem ai_ln {P : az_P} (hP : az_ok P) {A : az} (h : ai P A) {s : Nat} {l : List Int32} (hs : s < 2) (hl : 2 ≤ l.length ∧ l.length ≤ P 1 + 3) (hn : (A.2.2 (2 * s + 1)).length < rl P (2 * s + 1)) : ai P (o_ln s l A) := by
  have h1 : ai P (af A (2 * s + 1) (A.2.2 (2 * s + 1) ++ [l])) := ai_af h (aiF_add h.2.2.2 (by omega) hn ⟨hl, fun z => by omega⟩)
  have h2 : ai P (o_d0 s l A) := ai_an h1 (Or.inl rfl)
  exact ai_an h2 trivial
theorem ai_nm {P : az_P} (hP : az_ok P) {A : az} (h : ai P A) {s : Nat} {l : List Int32} (hs : s < 2) (h1 : 1 ≤ l.length) (hl : l.length < P 1 + 3) (ho : (A.2.2 (2 * s)).length < rl P (2 * s)) (hn : (A.2.2 (2 * s + 1)).length < rl P (2 * s + 1)) (hk : ¬ l.getD 0 0 &&& 7 = 1 → sw_ushr (l.getD 0 0) 24 = 0) : ai P (o_nm s l A) := by
  have hp := hP.2.1.2
  have h2 : ai P (af A (2 * s) (A.2.2 (2 * s) ++ [o_seal l])) := ai_af h (aiF_add h.2.2.2 (by omega) ho ⟨by rw [o_seal_len]; omega, fun _ => by rw [o_seal_0 h1 (by omega)]; exact hk⟩)
  refine ai_ln hP h2 hs (by rw [o_seal_len]; omega) ?_
  show (u1 A.2.2 (2 * s) (A.2.2 (2 * s) ++ [o_seal l]) (2 * s + 1)).length < _
  rw [u1_n _ _ (by omega)]
  exact hn
theorem ai_bt {P : az_P} {A : az} (h : ai P A) {t : Nat} (s : Nat) (ht : t < P 0) : ai P (o_bt s (nI t) A) := by
  have h1 : ai P (an A 30 s (nI t)) := ai_an h ⟨t, rfl, ht⟩
  exact ai_an h1 (h.v 10 _)
theorem ai_cnt {P : az_P} (hP : az_ok P) {A : az} (h : ai P A) (s : Nat) : ai P (o_cnt P s A) := by
  obtain ⟨c, h1, h2, h3⟩ := h.v 31 s
  obtain ⟨t, h4, h5⟩ := h.v 30 s
  have e31 : (o_c1 s A).1 31 s = nI (c - 1) := by
    show u2 A.1 31 s (A.1 31 s - 1) 31 s = _
    rw [u2_s, h1, show (1 : Int32) = nI 1 from rfl, nI_sub h2]
  have e30 : (o_c1 s A).1 30 s = nI t := by
    show u2 A.1 31 s (A.1 31 s - 1) 30 s = _
    rw [u2_n _ _ (fun z => absurd z.1 (by decide)), h4]
  unfold o_cnt
  rw [e31, e30]
  by_cases hc : 0 < nI (c - 1)
  · rw [if_pos hc]
    refine ai_an h ⟨c - 1, by rw [h1, show (1 : Int32) = nI 1 from rfl, nI_sub h2], ?_, by omega⟩
    have := (nI_ltI (a := 0) (b := c - 1) (by decide) (by omega)).mp hc
    omega
  · rw [if_neg hc]
    obtain ⟨t', e', ht', -⟩ := o_sa_of hP h5
    rw [e']
    have e : o_bt s (nI t') (o_c1 s A) = o_bt s (nI t') A := by
      unfold o_bt o_c1 an
      refine congrArg (fun z => (z, A.2)) ?_
      funext j' x'
      show u2 (u2 (u2 A.1 31 s (A.1 31 s - 1)) 30 s (nI t')) 31 s (u2 A.1 31 s (A.1 31 s - 1) 10 (8 * s + (nI t').toNatClampNeg)) j' x' = u2 (u2 A.1 30 s (nI t')) 31 s (A.1 10 (8 * s + (nI t').toNatClampNeg)) j' x'
      rw [u2_n A.1 _ (fun z => absurd z.1 (by decide))]
      by_cases ha : j' = 31 ∧ x' = s
      · rw [ha.1, ha.2, u2_s, u2_s]
      · rw [u2_n _ _ ha, u2_n _ _ ha]
        by_cases hb : j' = 30 ∧ x' = s
        · rw [hb.1, hb.2, u2_s, u2_s]
        · rw [u2_n _ _ hb, u2_n _ _ hb, u2_n _ _ ha]
    rw [e]
    exact ai_bt h s ht'
/-! pump -/
def o_b0 (s : Nat) (t : Int32) (A : az) : az := if t = A.1 30 s then A else o_bt s t A
def o_b1 (P : az_P) (s x : Nat) (t : Int32) (A : az) : List Int32 × az := if A.1 11 x = 0 then (if nI (A.2.1 0 x).length ≤ 0 then ([o_hd P s 4 t 0 A], an A 12 x 0) else o_dd P s x t A) else ([o_hd P s 3 t 0 A], an A 11 x 0)
def o_it (P : az_P) (s : Nat) (t : Int32) (A : az) : az := o_cnt P s (o_nm s (o_b1 P s (8 * s + t.toNatClampNeg) t (o_b0 s t A)).1 (o_b1 P s (8 * s + t.toNatClampNeg) t (o_b0 s t A)).2)
def o_gr (P : az_P) (s : Nat) (t : Int32) (A : az) : az := o_nm s [o_hd P s 2 t 0 A, A.1 9 (8 * s + t.toNatClampNeg)] (an A 9 (8 * s + t.toNatClampNeg) 0)
def o_na (s : Nat) (A : az) : Int32 × az := if A.1 32 s = 0 then (0, A) else (50, o_ln s (o_seal [(0 : Int32) ||| A.1 29 s <<< (16 &&& 31)]) A)
def o_pump (P : az_P) (s : Nat) (A : az) : Int32 × az :=
  if (A.2.2 (2 * s + 1)).length < P 4 then (if (A.2.2 (2 * s)).length < P 2 then (if o_sg s A (P 0) 0 = -2 then (if o_ts P s A (P 0) (A.1 30 s) = -2 then o_na s A else (1 + o_ts P s A (P 0) (A.1 30 s), o_it P s (o_ts P s A (P 0) (A.1 30 s)) A)) else (1 + o_sg s A (P 0) 0, o_gr P s (o_sg s A (P 0) 0) A)) else o_na s A) else (0, A)
theorem rl_e (P : az_P) (s : Nat) : rl P (2 * s) = P 2 ∧ rl P (2 * s + 1) = P 4 := by
  unfold rl
  rw [if_pos (by omega), if_neg (by omega)]
  exact ⟨rfl, rfl⟩
theorem b1_ab {P : az_P} (hP : az_ok P) {σ : sw_S} {A : az} (hai : ai P A) (h : crx P σ A) {s t : Nat} (hs : s < 2) (ht : t < P 0) (ho : (A.2.2 (2 * s)).length ≤ P 2) : cd P (sd_b1 (lz P) s (8 * s + t) (nI t) σ) (o_b1 P s (8 * s + t) (nI t) A).2 s (o_b1 P s (8 * s + t) (nI t) A).1 ∧ ai P (o_b1 P s (8 * s + t) (nI t) A).2 ∧ (o_b1 P s (8 * s + t) (nI t) A).2.2.2 = A.2.2 ∧ 1 ≤ (o_b1 P s (8 * s + t) (nI t) A).1.length ∧ (o_b1 P s (8 * s + t) (nI t) A).1.length < P 1 + 3 ∧ (¬ (o_b1 P s (8 * s + t) (nI t) A).1.getD 0 0 &&& 7 = 1 → sw_ushr ((o_b1 P s (8 * s + t) (nI t) A).1.getD 0 0) 24 = 0) := by
  have hp0 := hP.1
  have hp1 := hP.2.1
  have h' := h
  obtain ⟨Q, SP, h0⟩ := h'
  obtain ⟨w, hw⟩ : ∃ w, w = 8 * s + t := ⟨_, rfl⟩
  rw [← hw]
  have l0 := (cr_len hP h0 (b := 0) w (by decide)).1
  rw [Nat.add_zero] at l0
  unfold sd_b1 o_b1
  rw [show σ 1 w 7 = A.1 11 w from h0.1.2 _ 7 (by decide) (by decide), l0]
  by_cases c1 : A.1 11 w = 0
  · rw [if_pos c1, if_pos c1]
    by_cases c2 : nI (A.2.1 0 w).length ≤ 0
    · rw [if_pos c2, if_pos c2]
      refine ⟨cd_1 (cd_numb hP h hai.2.2.2 s 4 (nI t) 0) w (j := 8) 0 (by decide) (by decide), ai_an hai (Or.inl rfl), rfl, Nat.le_refl _, by show 1 < P 1 + 3; omega, fun _ => ?_⟩
      exact o_hd_ct hP hai (k := 4) ho (by decide) (by omega)
    · rw [if_neg c2, if_neg c2]
      have hk : o_k P w A ≤ (A.2.1 0 w).length ∧ o_k P w A ≤ P 1 ∧ o_k P w A ≤ (A.1 8 w).toNatClampNeg := by
        unfold o_k
        omega
      refine ⟨sd_dd_ab hP (fun x => hai.v 8 x) hai.2.2.2 h s w (nI t), ?_, rfl, ?_, ?_, fun z => absurd (fh_kd (k := 1) (by decide) _ _ _ _) z⟩
      · obtain ⟨c, e1, e2⟩ := hai.v 8 w
        have hp5 := hP.2.2.2.2.2
        rw [e1, nI_clamp (by omega)] at hk
        refine ai_an (ai_aq hai (fun z => absurd z (by decide)) (fun _ => by rw [List.length_drop]; omega) (fun p hp => List.mem_of_mem_drop hp)) ⟨c - o_k P w A, ?_, by omega⟩
        rw [e1, nI_sub (by omega)]
      · show 1 ≤ (o_dt _ (A.2.1 0 w) (o_k P w A)).length
        rw [o_dt_len _ _ hk.1]
        omega
      · show (o_dt _ (A.2.1 0 w) (o_k P w A)).length < P 1 + 3
        rw [o_dt_len _ _ hk.1]
        omega
  · rw [if_neg c1, if_neg c1]
    refine ⟨cd_1 (cd_numb hP h hai.2.2.2 s 3 (nI t) 0) w (j := 7) 0 (by decide) (by decide), ai_an hai (Or.inl rfl), rfl, Nat.le_refl _, by show 1 < P 1 + 3; omega, fun _ => ?_⟩
    exact o_hd_ct hP hai (k := 3) ho (by decide) (by omega)
theorem na_ab {P : az_P} (hP : az_ok P) {σ : sw_S} {A : az} (hai : ai P A) (h : crx P σ A) {s : Nat} (hs : s < 2) (hn : (A.2.2 (2 * s + 1)).length < P 4) : (sd_na (lz P) s σ).1 = (o_na s A).1 ∧ crx P (sd_na (lz P) s σ).2 (o_na s A).2 ∧ ai P (o_na s A).2 := by
  have hp1 := hP.2.1
  have h' := h
  obtain ⟨Q, SP, h0⟩ := h'
  unfold sd_na o_na
  rw [show σ 6 s 9 = A.1 32 s from h0.2.1 s 9 (by decide) (by decide)]
  by_cases c1 : A.1 32 s = 0
  · rw [if_pos c1, if_pos c1]
    exact ⟨rfl, h, hai⟩
  · rw [if_neg c1, if_neg c1]
    have e6 : σ 6 s 6 = A.1 29 s := h0.2.1 s 6 (by decide) (by decide)
    have a1 := cd_begin hP h hai.2.2.2 s ((0 : Int32) ||| A.1 29 s <<< (16 &&& 31))
    have a2 := cd_seal hP a1 hai.2.2.2 (by show 1 < P 1 + 3; omega)
    refine ⟨rfl, ?_, ai_ln hP hai hs ⟨Nat.le_refl _, by show 2 ≤ P 1 + 3; omega⟩ (by rw [(rl_e P s).2]; exact hn)⟩
    show crx P (sd_ak (lz P) s σ) _
    unfold sd_ak
    rw [e6]
    exact sd_sd_ab hP a2 hai.2.2.2 (by show 2 ≤ P 1 + 3; omega) hs (by rw [(rl_e P s).2]; exact hn)
theorem np_ab {P : az_P} (hP : az_ok P) {σ : sw_S} {A : az} (hai : ai P A) (h : crx P σ A) {s : Nat} (hs : s < 2) : (sd_np (lz P) s σ).1 = (o_pump P s A).1 ∧ crx P (sd_np (lz P) s σ).2 (o_pump P s A).2 ∧ ai P (o_pump P s A).2 := by
  have hp0 := hP.1
  have hp1 := hP.2.1
  have h' := h
  obtain ⟨Q, SP, h0⟩ := h'
  have e7 : σ 6 s 7 = A.1 30 s := h0.2.1 s 7 (by decide) (by decide)
  obtain ⟨tu, et, htu⟩ := hai.v 30 s
  unfold sd_np o_pump
  rw [rg_ro_go hP h0.2.2.2.2.1, rg_ro_go hP h0.2.2.2.2.1, (rl_e P s).1, (rl_e P s).2, show lz P 14 s = P 0 from rfl, sd_sg_ab h0 s (P 0) 0 (by omega), sd_ts_ab hP h0 s, e7]
  by_cases c1 : (A.2.2 (2 * s + 1)).length < P 4
  · rw [if_pos c1, if_neg (by decide), if_pos c1]
    by_cases c2 : (A.2.2 (2 * s)).length < P 2
    · rw [if_pos c2, if_neg (by decide), if_pos c2]
      have ro : (A.2.2 (2 * s)).length < rl P (2 * s) := by rw [(rl_e P s).1]; exact c2
      have rn : (A.2.2 (2 * s + 1)).length < rl P (2 * s + 1) := by rw [(rl_e P s).2]; exact c1
      by_cases c3 : o_sg s A (P 0) 0 = -2
      · rw [if_pos c3, if_pos c3]
        by_cases c4 : o_ts P s A (P 0) (A.1 30 s) = -2
        · rw [if_pos c4, if_pos c4]
          exact na_ab hP hai h hs c1
        · rw [if_neg c4, if_neg c4]
          rw [et] at c4 ⊢
          rcases o_ts_of hP s A (P 0) tu htu with z | ⟨t, e, ht, hh⟩
          · exact absurd z c4
          · rw [e]
            have hb0 : crx P (sd_b0 s (nI t) σ) (o_b0 s (nI t) A) ∧ ai P (o_b0 s (nI t) A) ∧ (o_b0 s (nI t) A).2.2 = A.2.2 := by
              unfold sd_b0 o_b0
              rw [e7]
              by_cases c5 : nI t = A.1 30 s
              · rw [if_pos c5, if_pos c5]
                exact ⟨h, hai, rfl⟩
              · rw [if_neg c5, if_neg c5]
                exact ⟨sd_bt_ab h s _, ai_bt hai s ht, rfl⟩
            obtain ⟨b1, b2, b3⟩ := hb0
            obtain ⟨d1, d2, d3, d4, d5, d6⟩ := b1_ab hP b2 b1 hs ht (by rw [b3]; omega)
            rw [b3] at d3
            have d7 := sd_sn_ab hP d1 d2.2.2.2 d4 d5 hs (by rw [d3]; exact ro) (by rw [d3]; exact rn) d6
            have d8 := ai_nm hP d2 hs d4 d5 (by rw [d3]; exact ro) (by rw [d3]; exact rn) d6
            have ecl : (nI t).toNatClampNeg = t := nI_clamp (by omega)
            refine ⟨rfl, ?_, ?_⟩
            · show crx P (sd_it (lz P) s (nI t) σ) (o_it P s (nI t) A)
              unfold sd_it o_it
              rw [ecl]
              exact sd_ct_ab d7 s
            · show ai P (o_it P s (nI t) A)
              unfold o_it
              rw [ecl]
              exact ai_cnt hP d8 s
      · rw [if_neg c3, if_neg c3]
        rcases o_sg_of s A (P 0) 0 with z | ⟨t, e, ht, hh⟩
        · exact absurd z c3
        · rw [e]
          have ht : t < P 0 := by omega
          have ecl : (nI t).toNatClampNeg = t := nI_clamp (by omega)
          refine ⟨rfl, ?_⟩
          show crx P (sd_sn (lz P) s (sd_g2 (lz P) s (nI t) σ)) (o_gr P s (nI t) A) ∧ ai P (o_gr P s (nI t) A)
          unfold o_gr sd_g2
          rw [ecl]
          have a1 := cd_numb hP h hai.2.2.2 s 2 (nI t) 0
          have e6 : sd_g1 (lz P) s (nI t) σ 1 (8 * s + t) 6 = A.1 9 (8 * s + t) := by
            obtain ⟨Q2, SP2, h2, -⟩ := a1
            exact h2.1.2 _ 6 (by decide) (by decide)
          rw [e6]
          have a2 := cd_put hP a1 hai.2.2.2 (by show 1 < P 1 + 3; omega) (A.1 9 (8 * s + t))
          have a3 := cd_1 a2 (8 * s + t) (j := 6) 0 (by decide) (by decide)
          have hk : ¬ [o_hd P s 2 (nI t) 0 A, A.1 9 (8 * s + t)].getD 0 0 &&& 7 = 1 → sw_ushr ([o_hd P s 2 (nI t) 0 A, A.1 9 (8 * s + t)].getD 0 0) 24 = 0 := fun _ => o_hd_ct hP hai (k := 2) (by omega) (by decide) (by omega)
          have h9 : ai P (an A 9 (8 * s + t) 0) := by
            obtain ⟨d, -, h2⟩ := hai.v 9 (8 * s + t)
            exact ai_an hai ⟨0, nI_0.symm, by omega⟩
          exact ⟨sd_sn_ab hP a3 hai.2.2.2 (by show 1 ≤ 2; decide) (by show 2 < P 1 + 3; omega) hs ro rn hk, ai_nm hP h9 hs (by show 1 ≤ 2; decide) (by show 2 < P 1 + 3; omega) ro rn hk⟩
    · rw [if_neg c2, if_pos rfl, if_neg c2]
      exact na_ab hP hai h hs c1
  · rw [if_neg c1, if_pos rfl, if_neg c1]
    exact ⟨rfl, h, hai⟩
theorem np_pre {P : az_P} (hP : az_ok P) {σ : sw_S} {A : az} (hai : ai P A) (h : crx P σ A) (s : Nat) : (gX6_sendNext (lz P) s σ).1 := by
  have hp0 := hP.1
  have hp1 := hP.2.1
  obtain ⟨Q, SP, h⟩ := h
  refine ⟨lz_lo hP, h.2.2.2.2.2, fun w => ?_, ?_, fun w => ?_⟩
  · rw [h.1.2 w 8 (by decide) (by decide), h.1.2 w 9 (by decide) (by decide)]
    exact ⟨hai.v 12 w, hai.v 7 w⟩
  · obtain ⟨t, e, ht⟩ := hai.v 30 s
    rw [show σ 6 s 7 = A.1 30 s from h.2.1 s 7 (by decide) (by decide), e]
    exact vp_in_nI ht (by show P 0 < 2 ^ 31; omega)
  · rw [sd_cn_ab hP (fun x => hai.v 8 x) h w]
    have : o_k P w A ≤ P 1 := by unfold o_k; omega
    exact nI_pos' (by omega)
def O_pump (P : az_P) (i : Int32) (A : az) : Int32 × az := match dS i with
  | none => (-1, A)
  | some s => o_pump P s A
theorem K_pump {P : az_P} (hP : az_ok P) {σ : sw_S} {A : az} (hai : ai P A) (h : crx P σ A) (i : Int32) : (gX7_pump (lz P) 0 i σ).1 ∧ (wi_pump (lz P) i σ).1 = (O_pump P i A).1 ∧ crx P (wi_pump (lz P) i σ).2 (O_pump P i A).2 ∧ ai P (O_pump P i A).2 := by
  refine ⟨fun s => np_pre hP hai h s, ?_⟩
  rcases dS_of i with ⟨s, hs, he, h1, h2, h3⟩ | ⟨h1, h2, h3⟩
  · unfold O_pump wi_pump
    rw [h1, h2]
    exact np_ab hP hai h hs
  · unfold O_pump wi_pump
    rw [h1, h2]
    exact ⟨rfl, h, hai⟩
def o_dl (P : az_P) (s : Nat) : Nat → Int32 → az → Int32 × az
  | 0, x, A => (x, A)
  | d + 1, x, A => if (o_pump P s A).1 = 0 then (x, (o_pump P s A).2) else o_dl P s d (x + 1) (o_pump P s A).2
theorem dl_ab {P : az_P} (hP : az_ok P) {s : Nat} (hs : s < 2) : ∀ (d : Nat) (x : Int32) (σ : sw_S) (A : az), ai P A → crx P σ A → (wi_dl (lz P) s d x σ).1 = (o_dl P s d x A).1 ∧ crx P (wi_dl (lz P) s d x σ).2 (o_dl P s d x A).2 ∧ ai P (o_dl P s d x A).2
  | 0, x, σ, A, hai, h => ⟨rfl, h, hai⟩
  | d + 1, x, σ, A, hai, h => by
    obtain ⟨a1, a2, a3⟩ := np_ab hP hai h hs
    show (if (sd_np (lz P) s σ).1 = 0 then (x, (sd_np (lz P) s σ).2) else wi_dl (lz P) s d (x + 1) (sd_np (lz P) s σ).2).1 = (if (o_pump P s A).1 = 0 then (x, (o_pump P s A).2) else o_dl P s d (x + 1) (o_pump P s A).2).1 ∧ crx P (if (sd_np (lz P) s σ).1 = 0 then (x, (sd_np (lz P) s σ).2) else wi_dl (lz P) s d (x + 1) (sd_np (lz P) s σ).2).2 (if (o_pump P s A).1 = 0 then (x, (o_pump P s A).2) else o_dl P s d (x + 1) (o_pump P s A).2).2 ∧ ai P (if (o_pump P s A).1 = 0 then (x, (o_pump P s A).2) else o_dl P s d (x + 1) (o_pump P s A).2).2
    rw [a1]
    by_cases c : (o_pump P s A).1 = 0
    · rw [if_pos c, if_pos c]
      exact ⟨rfl, a2, a3⟩
    · rw [if_neg c, if_neg c]
      exact dl_ab hP hs d (x + 1) _ _ a3 a2
theorem dp_ab {P : az_P} (hP : az_ok P) {s : Nat} (hs : s < 2) : ∀ (d : Nat) (σ : sw_S) (A : az), ai P A → crx P σ A → wi_dp (lz P) s d σ
  | 0, _, _, _, _ => trivial
  | d + 1, σ, A, hai, h => by
    obtain ⟨a1, a2, a3⟩ := np_ab hP hai h hs
    exact ⟨np_pre hP hai h s, fun _ => dp_ab hP hs d _ _ a3 a2⟩
