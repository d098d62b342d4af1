/-! The pure part: pump of the class -/
theorem u2_u2 {α : Type} (f : Nat → Nat → α) (j x : Nat) (v v' : α) : u2 (u2 f j x v) j x v' = u2 f j x v' := by
  funext j' x'
  unfold u2
  split <;> rfl
/-- a state with a draft -/
def cd (P : az_P) (σ : sw_S) (A : az) (s : Nat) (l : List Int32) : Prop := ∃ Q SP, cr P σ A Q SP ∧ cFr (σ 2) (σ 12) (128 + s) l
theorem cr_fx {P : az_P} (hP : az_ok P) {σ σ' : sw_S} {A : az} {Q SP : Nat → List Nat} {k : Nat} (h : cr P σ A Q SP) (hF : aiF P A.2.2) (hk : 128 ≤ k) (hx : fx k σ σ') (hg : fg (lz P) σ') : cr P σ' A Q SP :=
  cr_r h (cR_fx hP hx hk hF.1 h.2.2.2.2.1) hg (fun c h2 h12 _ => hx.2 c h2 h12)
theorem cd_begin {P : az_P} (hP : az_ok P) {σ : sw_S} {A : az} (h : crx P σ A) (hF : aiF P A.2.2) (s : Nat) (x : Int32) : cd P (gX2_begin (lz P) (128 + s) x σ).2.2 A s [x] := by
  obtain ⟨Q, SP, h⟩ := h
  obtain ⟨c1, c2⟩ := cFr_begin hP σ (128 + s) x
  exact ⟨Q, SP, cr_fx hP h hF (by omega) c2 (begin_go (lz_lo hP) h.2.2.2.2.2 _ _).2, c1⟩
theorem cd_put {P : az_P} (hP : az_ok P) {σ : sw_S} {A : az} {s : Nat} {l : List Int32} (h : cd P σ A s l) (hF : aiF P A.2.2) (hl : l.length < P 1 + 3) (x : Int32) : cd P (gX2_put (lz P) (128 + s) x σ).2.2 A s (l ++ [x]) := by
  obtain ⟨Q, SP, h, hd⟩ := h
  obtain ⟨c1, c2⟩ := cFr_put hP hd hl x
  exact ⟨Q, SP, cr_fx hP h hF (by omega) c2 (put_go (lz_lo hP) h.2.2.2.2.2 _ _), c1⟩
theorem cd_flip {P : az_P} (hP : az_ok P) {σ : sw_S} {A : az} {s i : Nat} {l : List Int32} (h : cd P σ A s l) (hF : aiF P A.2.2) (hl : l.length ≤ P 1 + 3) (hi : i < l.length) (x : Int32) : cd P (gX2_flip (lz P) (128 + s) (nI i) x σ).2.2 A s (l.set i (l.getD i 0 ^^^ x)) := by
  obtain ⟨Q, SP, h, hd⟩ := h
  have hp := hP.2.1.2
  obtain ⟨c1, c2⟩ := cFr_flip (P := P) hd (by omega) hi x
  exact ⟨Q, SP, cr_fx hP h hF (by omega) c2 (flip_go h.2.2.2.2.2 _ _ _), c1⟩
theorem cd_seal {P : az_P} (hP : az_ok P) {σ : sw_S} {A : az} {s : Nat} {l : List Int32} (h : cd P σ A s l) (hF : aiF P A.2.2) (hl : l.length < P 1 + 3) : cd P (gX2_seal (lz P) (128 + s) σ).2.2 A s (o_seal l) := by
  obtain ⟨Q, SP, h, hd⟩ := h
  obtain ⟨c1, c2⟩ := cFr_seal hP hd hl
  exact ⟨Q, SP, cr_fx hP h hF (by omega) c2 (seal_go (lz_lo hP) h.2.2.2.2.2 _).2, c1⟩
theorem cd_1 {P : az_P} {σ : sw_S} {A : az} {s : Nat} {l : List Int32} (h : cd P σ A s l) (w : Nat) {j : Nat} (v : Int32) (h3 : 3 ≤ j) (h13 : j < 13) : cd P (sw_up σ 1 w j v) (an A (fm j) w v) s l := by
  obtain ⟨Q, SP, h, hd⟩ := h
  refine ⟨Q, SP, cr_1 h w v h3 h13, ?_⟩
  rw [sw_upc _ (by decide), sw_upc _ (by decide)]
  exact hd
theorem cd_drop {P : az_P} (hP : az_ok P) {σ : sw_S} {A : az} {s : Nat} {l : List Int32} (h : cd P σ A s l) {w : Nat} {p : Int32 × Int32} {r : List (Int32 × Int32)} (hq : A.2.1 0 w = p :: r) : cd P (qu_do (lz P) (2 * w) σ) (aq A 0 w r) s l := by
  obtain ⟨Q, SP, h, hd⟩ := h
  obtain ⟨Q', SP', h'⟩ := cr_drop1 hP h (b := 0) (w := w) (by decide) hq
  have e1 : (2 * w + 0) % 2 = 0 := by omega
  have e2 : (2 * w + 0) / 2 = w := by omega
  have hk := (qu_do_ab hP h.2.2.2.1 (i := 2 * w + 0) (p := p) (r := r) (by rw [e1, e2]; exact hq)).2
  rw [Nat.add_zero] at h' hk
  refine ⟨Q', SP', h', ?_⟩
  rw [hk 2 (by decide), hk 12 (by decide)]
  exact hd
theorem cd_add {P : az_P} (hP : az_ok P) {σ : sw_S} {A : az} {s r : Nat} {l : List Int32} (h : cd P σ A s l) (hF : aiF P A.2.2) (hl : l.length ≤ P 1 + 3) (hr : r < 4) (hn : (A.2.2 r).length < rl P r) : cd P (gX3_add (lz P) r (128 + s) σ).2.2 (af A r (A.2.2 r ++ [l])) s l := by
  obtain ⟨Q, SP, h, hd⟩ := h
  obtain ⟨a1, a2, a3⟩ := rg_add_go hP h.2.2.2.2.1 hr (by omega) hd hl hF.1 hn
  exact ⟨Q, SP, cr_r h a1 (add_go (lz_lo hP) h.2.2.2.2.2 _ _).2 a3, a2⟩
def o_d0 (s : Nat) (l : List Int32) (A : az) : az := an (af A (2 * s + 1) (A.2.2 (2 * s + 1) ++ [l])) 32 s 0
def o_ln (s : Nat) (l : List Int32) (A : az) : az := an (o_d0 s l A) 33 s ((o_d0 s l A).1 33 s + 1)
theorem sd_sd_ab {P : az_P} (hP : az_ok P) {σ : sw_S} {A : az} {s : Nat} {l : List Int32} (h : cd P σ A s l) (hF : aiF P A.2.2) (hl : l.length ≤ P 1 + 3) (hs : s < 2) (hn : (A.2.2 (2 * s + 1)).length < rl P (2 * s + 1)) : crx P (sd_sd (lz P) s σ) (o_ln s l A) := by
  obtain ⟨Q, SP, h1, -⟩ := cd_add hP h hF hl (r := 2 * s + 1) (by omega) hn
  have h2 := cr_6 h1 s (j := 9) 0 (by decide) (by decide)
  have e : sd_d0 (lz P) s σ 6 s 11 = (o_d0 s l A).1 33 s := h2.2.1 s 11 (by decide) (by decide)
  unfold sd_sd o_ln
  rw [e]
  exact ⟨Q, SP, cr_6 h2 s (j := 11) _ (by decide) (by decide)⟩
/-- a list more in a ring -/
theorem aiF_add {P : az_P} {f : az_f} (hF : aiF P f) {r : Nat} {l : List Int32} (hr : r < 4) (hn : (f r).length < rl P r) (hl : (2 ≤ l.length ∧ l.length ≤ P 1 + 3) ∧ (r % 2 = 0 → ¬ la l 0 &&& 7 = 1 → sw_ushr (la l 0) 24 = 0)) : aiF P (u1 f r (f r ++ [l])) := by
  refine ⟨fun r' h4 => ?_, fun r' => ?_⟩
  · rw [u1_n _ _ (by omega)]
    exact hF.1 r' h4
  · by_cases hrr : r' = r
    · subst hrr
      rw [u1_s, List.length_append, List.length_singleton]
      refine ⟨by omega, fun m hm => ?_⟩
      rcases List.mem_append.mp hm with hm | hm
      · exact (hF.2 r').2 m hm
      · rw [List.mem_singleton.mp hm]
        exact hl
    · rw [u1_n _ _ hrr]
      exact hF.2 r'
def o_nm (s : Nat) (l : List Int32) (A : az) : az := o_ln s (o_seal l) (af A (2 * s) (A.2.2 (2 * s) ++ [o_seal l]))
theorem o_seal_len (l : List Int32) : (o_seal l).length = l.length + 1 := by
  unfold o_seal
  rw [List.length_append, List.length_singleton]
theorem o_seal_0 {l : List Int32} (h : 1 ≤ l.length) (hl : l.length < 100) : la (o_seal l) 0 = l.getD 0 0 := by
  have h0 := la_nI (l := o_seal l) (j := 0) (by rw [o_seal_len]; omega) (by rw [o_seal_len]; omega)
  rw [nI_0] at h0
  rw [h0]
  unfold o_seal
  rw [List.getD_eq_getElem?_getD, List.getD_eq_getElem?_getD, List.getElem?_append_left (by omega)]
theorem sd_sn_ab {P : az_P} (hP : az_ok P) {σ : sw_S} {A : az} {s : Nat} {l : List Int32} (h : cd P σ A s l) (hF : aiF P A.2.2) (h1 : 1 ≤ l.length) (hl : l.length < P 1 + 3) (hs : s < 2) (ho : (A.2.2 (2 * s)).length < rl P (2 * s)) (hn : (A.2.2 (2 * s + 1)).length < rl P (2 * s + 1)) (hk : ¬ l.getD 0 0 &&& 7 = 1 → sw_ushr (l.getD 0 0) 24 = 0) : crx P (sd_sn (lz P) s σ) (o_nm s l A) := by
  have hp := hP.2.1.2
  have a1 := cd_seal hP h hF hl
  have a2 := cd_add hP a1 hF (r := 2 * s) (by rw [o_seal_len]; omega) (by omega) ho
  have hF2 : aiF P (af A (2 * s) (A.2.2 (2 * s) ++ [o_seal l])).2.2 := aiF_add hF (by omega) ho ⟨by rw [o_seal_len]; omega, fun _ => by rw [o_seal_0 h1 (by omega)]; exact hk⟩
  refine sd_sd_ab hP a2 hF2 (by rw [o_seal_len]; omega) hs ?_
  show (u1 A.2.2 (2 * s) (A.2.2 (2 * s) ++ [o_seal l]) (2 * s + 1)).length < _
  rw [u1_n _ _ (by omega)]
  exact hn
/-! numbers, turns -/
def o_nb (P : az_P) (s : Nat) (A : az) : Int32 := if A.1 28 s + nI (A.2.2 (2 * s)).length ≤ nI (P 2) then A.1 28 s + nI (A.2.2 (2 * s)).length else A.1 28 s + nI (A.2.2 (2 * s)).length - nI (P 2) - 1
def o_hd (P : az_P) (s : Nat) (kd t ct : Int32) (A : az) : Int32 := fh kd t (o_nb P s A) (A.1 29 s) ct
theorem sd_hd_ab {P : az_P} {σ : sw_S} {A : az} {Q SP : Nat → List Nat} (h : cr P σ A Q SP) (s : Nat) (kd t ct : Int32) : sd_hd s kd t ct σ = o_hd P s kd t ct A := by
  unfold sd_hd o_hd fh li_nb o_nb
  obtain ⟨a, -, -, g3, -, -⟩ := h.2.2.2.2.1 (2 * s)
  rw [h.2.1 s 5 (by decide) (by decide), h.2.1 s 6 (by decide) (by decide), g3, h.2.2.1 2 (by decide)]
  rfl
theorem cd_numb {P : az_P} (hP : az_ok P) {σ : sw_S} {A : az} (h : crx P σ A) (hF : aiF P A.2.2) (s : Nat) (kd t ct : Int32) : cd P (gX6_beginNumbered (lz P) s kd t ct σ).2.2 A s [o_hd P s kd t ct A] := by
  have h' := h
  obtain ⟨Q, SP, h0⟩ := h'
  have := cd_begin hP h hF s (sd_hd s kd t ct σ)
  rw [sd_hd_ab h0] at this
  show cd P (gX2_begin (lz P) (128 + s) (sd_hd s kd t ct σ) σ).2.2 A s _
  rw [sd_hd_ab h0]
  exact this
def o_bt (s : Nat) (t : Int32) (A : az) : az := an (an A 30 s t) 31 s (A.1 10 (8 * s + t.toNatClampNeg))
theorem sd_bt_ab {P : az_P} {σ : sw_S} {A : az} (h : crx P σ A) (s : Nat) (t : Int32) : crx P (sd_bt s t σ) (o_bt s t A) := by
  obtain ⟨Q, SP, h⟩ := h
  have h1 := cr_6 h s (j := 7) t (by decide) (by decide)
  have e : sw_up σ 6 s 7 t 1 (8 * s + t.toNatClampNeg) 4 = A.1 10 (8 * s + t.toNatClampNeg) := by
    rw [sw_upc _ (by decide)]
    exact h.1.2 _ 4 (by decide) (by decide)
  unfold sd_bt o_bt
  rw [e]
  exact ⟨Q, SP, cr_6 h1 s (j := 8) _ (by decide) (by decide)⟩
def o_sa (P : az_P) (t : Int32) : Int32 := if nI (P 0) ≤ t + 1 then 0 else t + 1
def o_c1 (s : Nat) (A : az) : az := an A 31 s (A.1 31 s - 1)
def o_cnt (P : az_P) (s : Nat) (A : az) : az := if 0 < (o_c1 s A).1 31 s then o_c1 s A else o_bt s (o_sa P ((o_c1 s A).1 30 s)) (o_c1 s A)
theorem sd_ct_ab {P : az_P} {σ : sw_S} {A : az} (h : crx P σ A) (s : Nat) : crx P (sd_ct (lz P) s σ) (o_cnt P s A) := by
  obtain ⟨Q, SP, h⟩ := h
  have e8 : σ 6 s 8 = A.1 31 s := h.2.1 s 8 (by decide) (by decide)
  have h1 : cr P (sd_c1 s σ) (o_c1 s A) Q SP := by
    unfold sd_c1 o_c1
    rw [e8]
    exact cr_6 h s (j := 8) _ (by decide) (by decide)
  have f8 : sd_c1 s σ 6 s 8 = (o_c1 s A).1 31 s := h1.2.1 s 8 (by decide) (by decide)
  have f7 : sd_c1 s σ 6 s 7 = (o_c1 s A).1 30 s := h1.2.1 s 7 (by decide) (by decide)
  unfold sd_ct o_cnt
  rw [f8, f7]
  by_cases hp : 0 < (o_c1 s A).1 31 s
  · rw [if_pos hp, if_pos hp]
    exact ⟨Q, SP, h1⟩
  · rw [if_neg hp, if_neg hp]
    exact sd_bt_ab ⟨Q, SP, h1⟩ s _
/-! what waits -/
def o_hs (x : Nat) (A : az) : Int32 := if A.1 11 x = 0 then (if nI (A.2.1 0 x).length ≤ 0 then A.1 12 x else if A.1 8 x ≤ 0 then 0 else 1) else 1
theorem fl_hs_ab {P : az_P} (hP : az_ok P) {σ : sw_S} {A : az} {Q SP : Nat → List Nat} (h : cr P σ A Q SP) (w : Nat) : fl_hs w σ = o_hs w A := by
  have l0 := (cr_len hP h (b := 0) w (by decide)).1
  rw [Nat.add_zero] at l0
  unfold fl_hs o_hs
  rw [l0, h.1.2 _ 7 (by decide) (by decide), h.1.2 _ 8 (by decide) (by decide), h.1.2 _ 5 (by decide) (by decide)]
  rfl
def o_sg (s : Nat) (A : az) : Nat → Nat → Int32
  | 0, _ => -2
  | d + 1, j => if A.1 9 (8 * s + j) ≤ 0 then o_sg s A d (j + 1) else nI j
theorem sd_sg_ab {P : az_P} {σ : sw_S} {A : az} {Q SP : Nat → List Nat} (h : cr P σ A Q SP) (s : Nat) : ∀ d j : Nat, j + d ≤ 8 → sd_sg s σ d j = o_sg s A d j
  | 0, _, _ => rfl
  | d + 1, j, hj => by
    show (if σ 1 (8 * s + (nI j).toNatClampNeg) 6 ≤ 0 then sd_sg s σ d (j + 1) else nI j) = (if A.1 9 (8 * s + j) ≤ 0 then o_sg s A d (j + 1) else nI j)
    rw [nI_clamp (by omega), sd_sg_ab h s d (j + 1) (by omega), h.1.2 _ 6 (by decide) (by decide)]
    rfl
def o_ts (P : az_P) (s : Nat) (A : az) : Nat → Int32 → Int32
  | 0, _ => -2
  | d + 1, t => if o_hs (8 * s + t.toNatClampNeg) A = 0 then o_ts P s A d (o_sa P t) else t
theorem sd_ts_ab {P : az_P} (hP : az_ok P) {σ : sw_S} {A : az} {Q SP : Nat → List Nat} (h : cr P σ A Q SP) (s : Nat) : ∀ (d : Nat) (t : Int32), sd_ts (lz P) s σ d t = o_ts P s A d t
  | 0, _ => rfl
  | d + 1, t => by
    show (if fl_hs (8 * s + t.toNatClampNeg) σ = 0 then sd_ts (lz P) s σ d (sd_sa (lz P) s t) else t) = (if o_hs (8 * s + t.toNatClampNeg) A = 0 then o_ts P s A d (o_sa P t) else t)
    rw [fl_hs_ab hP h, sd_ts_ab hP h s d]
    rfl
theorem o_sg_of (s : Nat) (A : az) : ∀ d j : Nat, o_sg s A d j = -2 ∨ ∃ t, o_sg s A d j = nI t ∧ t < j + d ∧ ¬ A.1 9 (8 * s + t) ≤ 0
  | 0, _ => Or.inl rfl
  | d + 1, j => by
    show (if A.1 9 (8 * s + j) ≤ 0 then o_sg s A d (j + 1) else nI j) = -2 ∨ ∃ t, (if A.1 9 (8 * s + j) ≤ 0 then o_sg s A d (j + 1) else nI j) = nI t ∧ t < j + (d + 1) ∧ ¬ A.1 9 (8 * s + t) ≤ 0
    by_cases h : A.1 9 (8 * s + j) ≤ 0
    · rw [if_pos h]
      rcases o_sg_of s A d (j + 1) with h1 | ⟨t, h1, h2, h3⟩
      · exact Or.inl h1
      · exact Or.inr ⟨t, h1, by omega, h3⟩
    · rw [if_neg h]
      exact Or.inr ⟨j, rfl, by omega, h⟩
theorem o_sa_of {P : az_P} (hP : az_ok P) {t : Nat} (ht : t < P 0) : ∃ t', o_sa P (nI t) = nI t' ∧ t' < P 0 ∧ t' = (if t + 1 < P 0 then t + 1 else 0) := by
  have hp := hP.1
  unfold o_sa
  rw [nI_1]
  by_cases h : t + 1 < P 0
  · rw [if_neg (nI_ge h (by omega))]
    exact ⟨t + 1, rfl, h, (if_pos h).symm⟩
  · rw [if_pos (nI_le (by omega) (by omega))]
    exact ⟨0, nI_0.symm, by omega, (if_neg h).symm⟩
theorem o_ts_of {P : az_P} (hP : az_ok P) (s : Nat) (A : az) : ∀ (d t : Nat), t < P 0 → o_ts P s A d (nI t) = -2 ∨ ∃ t', o_ts P s A d (nI t) = nI t' ∧ t' < P 0 ∧ ¬ o_hs (8 * s + t') A = 0
  | 0, _, _ => Or.inl rfl
  | d + 1, t, ht => by
    have hp := hP.1
    show (if o_hs (8 * s + (nI t).toNatClampNeg) A = 0 then o_ts P s A d (o_sa P (nI t)) else nI t) = -2 ∨ ∃ t', (if o_hs (8 * s + (nI t).toNatClampNeg) A = 0 then o_ts P s A d (o_sa P (nI t)) else nI t) = nI t' ∧ t' < P 0 ∧ ¬ o_hs (8 * s + t') A = 0
    rw [nI_clamp (by omega)]
    by_cases h : o_hs (8 * s + t) A = 0
    · rw [if_pos h]
      obtain ⟨t2, e2, h2, -⟩ := o_sa_of hP ht
      rw [e2]
      exact o_ts_of hP s A d t2 h2
    · rw [if_neg h]
      exact Or.inr ⟨t, rfl, ht, h⟩
/-! data -/
def o_bits (L : List (Int32 × Int32)) : Nat → Int32
  | 0 => 0
  | n + 1 => if (L.getD n (0, 0)).2 = 0 then o_bits L n else o_bits L n ^^^ (1 : Int32) <<< (nI n &&& 31)
def o_dt (h : Int32) (L : List (Int32 × Int32)) (n : Nat) : List Int32 := h :: o_bits L n :: (L.take n).map Prod.fst
theorem o_dt_len (h : Int32) (L : List (Int32 × Int32)) {n : Nat} (hn : n ≤ L.length) : (o_dt h L n).length = n + 2 := by
  unfold o_dt
  rw [List.length_cons, List.length_cons, List.length_map, List.length_take]
  omega
theorem sd_dl_ab {P : az_P} (hP : az_ok P) {σ : sw_S} {A : az} {s w : Nat} {h : Int32} (hF : aiF P A.2.2) (h0 : cd P σ A s (o_dt h (A.2.1 0 w) 0)) : ∀ n : Nat, n ≤ (A.2.1 0 w).length → n ≤ P 1 → cd P (sd_dl (lz P) s w n σ) (aq A 0 w ((A.2.1 0 w).drop n)) s (o_dt h (A.2.1 0 w) n)
  | 0, _, _ => by
    rw [List.drop_zero, show aq A 0 w (A.2.1 0 w) = A by unfold aq; rw [u2_self]]
    exact h0
  | n + 1, hn, hm => by
    have hp := hP.2.1.2
    have ih := sd_dl_ab hP hF h0 n (by omega) (by omega)
    obtain ⟨L, hL⟩ : ∃ L, L = A.2.1 0 w := ⟨_, rfl⟩
    rw [← hL] at ih hn ⊢
    have hd : L.drop n = L[n] :: L.drop (n + 1) := List.drop_eq_getElem_cons (by omega)
    have hg : L.getD n (0, 0) = L[n] := by rw [List.getD_eq_getElem?_getD, List.getElem?_eq_getElem (by omega)]; rfl
    obtain ⟨a, ha⟩ : ∃ a, a = sd_dl (lz P) s w n σ := ⟨_, rfl⟩
    obtain ⟨B, hB⟩ : ∃ B, B = aq A 0 w (L.drop n) := ⟨_, rfl⟩
    have hFB : aiF P B.2.2 := by rw [hB]; exact hF
    show cd P (sd_e2 (lz P) s w (sd_e1 (lz P) s w n (sd_dl (lz P) s w n σ))) (aq A 0 w (L.drop (n + 1))) s (o_dt h L (n + 1))
    rw [← ha] at ih ⊢
    rw [← hB] at ih
    have hq : B.2.1 0 w = L[n] :: L.drop (n + 1) := by
      rw [hB, ← hd]
      exact u2_s _ _ _ _
    have hlen := o_dt_len h L (n := n) (by omega)
    have hom : ∀ {σ' : sw_S} {l : List Int32}, cd P σ' B s l → qu_om (lz P) (2 * w) σ' = (if (L[n]).2 = 0 then 0 else 1) ∧ qu_ow (lz P) (2 * w) σ' = (L[n]).1 := fun {σ' l} hc => by
      obtain ⟨Q, SP, hc, -⟩ := hc
      have := cr_om hP hc (b := 0) (w := w) (by decide) hq
      rw [Nat.add_zero] at this
      exact this
    have h1 : cd P (sd_e1 (lz P) s w n a) B s (h :: o_bits L (n + 1) :: (L.take n).map Prod.fst) := by
      unfold sd_e1
      rw [(hom ih).1]
      show cd P _ B s (h :: (if (L.getD n (0, 0)).2 = 0 then o_bits L n else o_bits L n ^^^ (1 : Int32) <<< (nI n &&& 31)) :: (L.take n).map Prod.fst)
      rw [hg]
      by_cases hz : (L[n]).2 = 0
      · rw [if_pos hz, if_pos rfl, if_pos hz]
        exact ih
      · rw [if_neg hz, if_neg (by decide), if_neg hz]
        have := cd_flip hP ih hFB (i := 1) (by omega) (by omega) ((1 : Int32) <<< (nI n &&& 31))
        exact this
    have h2 := cd_put hP h1 hFB (by show (L.take n |>.map Prod.fst).length + 1 + 1 < P 1 + 3; rw [List.length_map, List.length_take]; omega) ((L[n]).1)
    have h3 := cd_drop hP h2 hq
    unfold sd_e2
    rw [(hom h1).2]
    have e1 : aq B 0 w (L.drop (n + 1)) = aq A 0 w (L.drop (n + 1)) := by
      rw [hB]
      unfold aq
      rw [u2_u2]
    have e2 : (h :: o_bits L (n + 1) :: (L.take n).map Prod.fst) ++ [(L[n]).1] = o_dt h L (n + 1) := by
      show h :: o_bits L (n + 1) :: ((L.take n).map Prod.fst ++ [(L[n]).1]) = h :: o_bits L (n + 1) :: (L.take (n + 1)).map Prod.fst
      rw [List.take_add_one, List.getElem?_eq_getElem (by omega), List.map_append]
      rfl
    rw [e1, e2] at h3
    exact h3
def o_k (P : az_P) (x : Nat) (A : az) : Nat := min (min (A.1 8 x).toNatClampNeg (A.2.1 0 x).length) (P 1)
theorem sd_cn_ab {P : az_P} (hP : az_ok P) {σ : sw_S} {A : az} {Q SP : Nat → List Nat} (hai : ∀ x, ∃ c : Nat, A.1 8 x = nI c ∧ c ≤ P 5) (h : cr P σ A Q SP) (w : Nat) : sd_cn w σ = nI (o_k P w A) := by
  have hp1 := hP.2.1
  have hp5 := hP.2.2.2.2.2
  have l0 := cr_len hP h (b := 0) w (by decide)
  rw [Nat.add_zero] at l0
  obtain ⟨c, hc, hcl⟩ := hai w
  have em : sd_m w σ = nI (min c (A.2.1 0 w).length) := by
    unfold sd_m
    rw [l0.1, show σ 1 w 5 = A.1 8 w from h.1.2 _ 5 (by decide) (by decide), hc]
    by_cases hl : c < (A.2.1 0 w).length
    · rw [if_pos (nI_lt hl (by omega)), Nat.min_eq_left (by omega)]
    · rw [if_neg (nI_nlt (by omega) (by omega)), Nat.min_eq_right (by omega)]
  unfold sd_cn o_k
  rw [em, hc, nI_clamp (by omega), h.2.2.1 1 (by decide)]
  obtain ⟨m, hm⟩ : ∃ m, m = min c (A.2.1 0 w).length := ⟨_, rfl⟩
  have hm2 : m ≤ 2000 := by omega
  rw [← hm]
  by_cases hl : m < P 1
  · rw [if_pos (nI_lt hl (by omega)), Nat.min_eq_left (by omega)]
  · rw [if_neg (nI_nlt (by omega) (by omega)), Nat.min_eq_right (by omega)]
def o_dd (P : az_P) (s x : Nat) (t : Int32) (A : az) : List Int32 × az := (o_dt (o_hd P s 1 t (nI (o_k P x A)) A) (A.2.1 0 x) (o_k P x A), an (aq A 0 x ((A.2.1 0 x).drop (o_k P x A))) 8 x (A.1 8 x - nI (o_k P x A)))
theorem sd_dd_ab {P : az_P} (hP : az_ok P) {σ : sw_S} {A : az} (hai : ∀ x, ∃ c : Nat, A.1 8 x = nI c ∧ c ≤ P 5) (hF : aiF P A.2.2) (h : crx P σ A) (s w : Nat) (t : Int32) : cd P (sd_dd (lz P) s w t σ) (o_dd P s w t A).2 s (o_dd P s w t A).1 := by
  have hp1 := hP.2.1
  have h' := h
  obtain ⟨Q, SP, h0⟩ := h'
  have hcn := sd_cn_ab hP hai h0 w
  have hk : o_k P w A ≤ (A.2.1 0 w).length ∧ o_k P w A ≤ P 1 := by
    unfold o_k
    omega
  have h1 := cd_numb hP h hF s 1 t (sd_cn w σ)
  have h2 := cd_put hP h1 hF (by show 1 < P 1 + 3; omega) 0
  have h3 := sd_dl_ab hP (w := w) (h := o_hd P s 1 t (sd_cn w σ) A) hF h2 (o_k P w A) hk.1 hk.2
  unfold sd_dd o_dd
  rw [hcn, nI_clamp (by omega)]
  rw [hcn] at h3
  unfold sd_dz
  have e5 : sd_dl (lz P) s w (o_k P w A) (sd_e0 (lz P) s w t σ) 1 w 5 = A.1 8 w := by
    obtain ⟨Q2, SP2, h4, -⟩ := h3
    have := h4.1.2 w 5 (by decide) (by decide)
    unfold sd_e0
    rw [hcn]
    exact this
  rw [e5]
  have h5 := cd_1 h3 w (j := 5) (A.1 8 w - nI (o_k P w A)) (by decide) (by decide)
  unfold sd_e0
  rw [hcn]
  exact h5
