/-! The pure part: deliver of the class -/
theorem nx_and (a b : Nat) : nI a &&& nI b = nI (a &&& b) := by
  apply Int32.toBitVec_inj.1
  show BitVec.ofNat 32 a &&& BitVec.ofNat 32 b = BitVec.ofNat 32 (a &&& b)
  apply BitVec.eq_of_getLsbD_eq
  intro i hi
  simp [hi]
theorem i32_255 (y : Int32) : ∃ n : Nat, n < 256 ∧ y &&& 255 = nI n := by
  obtain ⟨a, -, rfl⟩ := sw_nI_all y
  refine ⟨a % 256, by omega, ?_⟩
  rw [show (255 : Int32) = nI 255 from rfl, nx_and, show (255 : Nat) = 2 ^ 8 - 1 from rfl, Nat.and_two_pow_sub_one_eq_mod]
theorem i32_31 (y : Int32) : ∃ n : Nat, n < 32 ∧ y &&& 31 = nI n := by
  obtain ⟨a, -, rfl⟩ := sw_nI_all y
  refine ⟨a % 32, by omega, ?_⟩
  rw [show (31 : Int32) = nI 31 from rfl, nx_and, show (31 : Nat) = 2 ^ 5 - 1 from rfl, Nat.and_two_pow_sub_one_eq_mod]
theorem i32_7 (y : Int32) : ∃ n : Nat, n < 8 ∧ y &&& 7 = nI n := by
  obtain ⟨a, -, rfl⟩ := sw_nI_all y
  refine ⟨a % 8, by omega, ?_⟩
  rw [show (7 : Int32) = nI 7 from rfl, nx_and, show (7 : Nat) = 2 ^ 3 - 1 from rfl, Nat.and_two_pow_sub_one_eq_mod]
/-! a frame's parts -/
abbrev wkd (w : Int32 → Int32) : Int32 := w 0 &&& 7
abbrev wsn (w : Int32 → Int32) : Int32 := sw_ushr (w 0) 3 &&& 31
abbrev wnu (w : Int32 → Int32) : Int32 := sw_ushr (w 0) 8 &&& 255
abbrev wwa (w : Int32 → Int32) : Int32 := sw_ushr (w 0) 16 &&& 255
abbrev wct (w : Int32 → Int32) : Int32 := sw_ushr (w 0) 24
def wmk (w : Int32 → Int32) (i : Int32) : Int32 := if sw_ushr (w 1) i &&& 1 = 1 then 1 else 0
def wlt (w : Int32 → Int32) : Int32 := if wkd w = 1 then 3 + wct w else if wkd w = 2 then 3 else 2
def wms (w : Int32 → Int32) : Nat → Nat → Int32
  | 0, _ => 1
  | d + 1, j => if wmk w (nI j) = 0 then wms w d (j + 1) else if w (2 + nI j) = 0 then wms w d (j + 1) else 0
def wam (w : Int32 → Int32) : Int32 := if sw_ushr (w 1) (wct w) = 0 then wms w (wct w).toNatClampNeg 0 else 0
def wsk (P : az_P) (w : Int32 → Int32) : Int32 :=
  if wkd w = 0 then (if wsn w = 0 then (if wnu w = 0 then (if wct w = 0 then 1 else 0) else 0) else 0)
  else if wkd w = 1 then (if wct w < 1 then 0 else if nI (P 1) < wct w then 0 else if wam w = 0 then 0 else 1)
  else if wkd w = 2 then (if wct w = 0 then (if w 1 ≤ 0 then 0 else 1) else 0)
  else if wkd w = 3 then (if wct w = 0 then 1 else 0)
  else if wkd w = 4 then (if wct w = 0 then 1 else 0)
  else 0
def o_so (P : az_P) (l : List Int32) : Int32 :=
  if nI l.length = wlt (la l) then (if la l (nI l.length - 1) = sm (la l) (nI l.length - 1).toNatClampNeg then (if nI (P 0) ≤ wsn (la l) then 0 else if nI (P 2) < wnu (la l) then 0 else if nI (P 2) < wwa (la l) then 0 else if wsk P (la l) = 0 then 0 else 1) else 0) else 0
theorem fr_ms_ab {σ : sw_S} {f : Nat} {w : Int32 → Int32} (h : fr_at σ f = w) : ∀ d j : Nat, fr_ms σ f d j = wms w d j
  | 0, _ => rfl
  | d + 1, j => by
    show (if fr_mk σ f (nI j) = 0 then fr_ms σ f d (j + 1) else if fr_at σ f (2 + nI j) = 0 then fr_ms σ f d (j + 1) else 0) = (if wmk w (nI j) = 0 then wms w d (j + 1) else if w (2 + nI j) = 0 then wms w d (j + 1) else 0)
    unfold fr_mk wmk
    rw [h, fr_ms_ab h d (j + 1)]
theorem fr_so_ab {P : az_P} (hP : az_ok P) {σ : sw_S} {A : az} {Q SP : Nat → List Nat} (h : cr P σ A Q SP) {f : Nat} {l : List Int32} (hf : cFr (σ 2) (σ 12) f l) (hl : l.length ≤ P 1 + 3) : fr_so σ f 0 = o_so P l := by
  have hp := hP.2.1
  have e := cFr_la hf (by omega)
  have e1 : fr_am σ f = wam (la l) := by
    unfold fr_am wam fr_ct
    rw [e, fr_ms_ab e]
  have e2 : fr_sk σ f 0 = wsk P (la l) := by
    unfold fr_sk wsk fr_kd fr_sn fr_nu fr_ct
    rw [e, e1, h.2.2.1 1 (by decide)]
  have e3 : fr_lt σ f = wlt (la l) := by
    unfold fr_lt wlt fr_kd fr_ct
    rw [e]
  unfold fr_so o_so fr_rl fr_sn fr_nu fr_wa
  rw [e, e2, e3, hf.1, h.2.2.1 0 (by decide), h.2.2.1 2 (by decide)]
/-! what comes is taken -/
def o_rf (u : Nat) (A : az) : Int32 × az := (2, an A 35 u (A.1 35 u + 1))
def o_sb (P : az_P) (a b : Int32) : Int32 := if b < a then b - a + nI (P 2) + 1 else b - a
def o_se (P : az_P) (u : Nat) (x : Int32) (A : az) : az := if o_sb P (A.1 28 u) x ≤ nI (A.2.2 (2 * u)).length then an (af A (2 * u) ((A.2.2 (2 * u)).drop (o_sb P (A.1 28 u) x).toNatClampNeg)) 28 u x else A
def o_cb (x : Nat) (A : az) : Int32 := if A.1 6 x = 0 then 0 else if A.1 7 x = 0 then 1 else 0
def o_ca (P : az_P) (x : Nat) (w : Int32 → Int32) (A : az) : Int32 :=
  if wkd w = 1 then (if o_cb x A = 0 then 0 else if nI (P 5) - nI (A.2.1 1 x).length - A.1 9 x < wct w then 0 else 1)
  else if wkd w = 2 then (if A.1 6 x = 0 then 0 else if nI (P 5) - A.1 8 x < w 1 then 0 else 1)
  else if wkd w = 3 then (if A.1 13 x = 0 then 1 else 0)
  else if wkd w = 4 then o_cb x A
  else 0
def o_items (w : Int32 → Int32) (n : Nat) : List (Int32 × Int32) := (List.range n).map (fun j => (w (2 + nI j), wmk w (nI j)))
def o_to (P : az_P) (x : Nat) (C : az) : az := if C.1 6 x = 0 then an (an C 6 x 1) 8 x (nI (P 5)) else C
def o_tk (P : az_P) (x : Nat) (w : Int32 → Int32) (A : az) : az :=
  if wkd w = 1 then aq A 1 x (A.2.1 1 x ++ o_items w (wct w).toNatClampNeg)
  else if wkd w = 2 then an A 8 x (A.1 8 x + w 1)
  else if wkd w = 3 then o_to P x (an A 13 x 1)
  else if wkd w = 4 then an A 7 x 1
  else A
def o_nx (P : az_P) (a : Int32) : Int32 := if a + 1 ≤ nI (P 2) then a + 1 else a + 1 - nI (P 2) - 1
def o_m1 (P : az_P) (u : Nat) (A : az) : az := an A 29 u (o_nx P (A.1 29 u))
def o_m2 (u : Nat) (A : az) : az := an (an A 34 u (A.1 34 u + 1)) 32 u 1
def o_m4 (u : Nat) (A : az) : az := an (an A 36 u (A.1 36 u + 1)) 32 u 1
def o_mw (P : az_P) (u x : Nat) (w : Int32 → Int32) (A : az) : Int32 × az := if o_ca P x w A = 0 then o_rf u A else (1, o_m2 u (o_m1 P u (o_tk P x w A)))
def o_ma (P : az_P) (u : Nat) (w : Int32 → Int32) (A : az) : Int32 × az := if wkd w = 0 then (3, A) else if wnu w = A.1 29 u then o_mw P u (8 * u + (wsn w).toNatClampNeg) w A else (4, o_m4 u A)
def o_meet (P : az_P) (u : Nat) (l : List Int32) (A : az) : Int32 × az := if o_so P l = 0 then o_rf u A else o_ma P u (la l) (o_se P u (wwa (la l)) A)
/-! the parts of a sound frame -/
theorem o_so_of {P : az_P} {l : List Int32} (h : ¬ o_so P l = 0) : nI l.length = wlt (la l) ∧ la l (nI l.length - 1) = sm (la l) (nI l.length - 1).toNatClampNeg ∧ ¬ nI (P 0) ≤ wsn (la l) ∧ ¬ nI (P 2) < wnu (la l) ∧ ¬ nI (P 2) < wwa (la l) ∧ ¬ wsk P (la l) = 0 := by
  unfold o_so at h
  by_cases a1 : nI l.length = wlt (la l)
  · rw [if_pos a1] at h
    by_cases a2 : la l (nI l.length - 1) = sm (la l) (nI l.length - 1).toNatClampNeg
    · rw [if_pos a2] at h
      by_cases a3 : nI (P 0) ≤ wsn (la l)
      · rw [if_pos a3] at h; exact absurd rfl h
      · rw [if_neg a3] at h
        by_cases a4 : nI (P 2) < wnu (la l)
        · rw [if_pos a4] at h; exact absurd rfl h
        · rw [if_neg a4] at h
          by_cases a5 : nI (P 2) < wwa (la l)
          · rw [if_pos a5] at h; exact absurd rfl h
          · rw [if_neg a5] at h
            by_cases a6 : wsk P (la l) = 0
            · rw [if_pos a6] at h; exact absurd rfl h
            · exact ⟨a1, a2, a3, a4, a5, a6⟩
    · rw [if_neg a2] at h; exact absurd rfl h
  · rw [if_neg a1] at h; exact absurd rfl h
theorem o_so_nat {P : az_P} (hP : az_ok P) {l : List Int32} (h : ¬ o_so P l = 0) : ∃ t v : Nat, wsn (la l) = nI t ∧ t < P 0 ∧ wwa (la l) = nI v ∧ v ≤ P 2 := by
  obtain ⟨-, -, a3, -, a5, -⟩ := o_so_of h
  have hp0 := hP.1
  have hp2 := hP.2.2.1
  obtain ⟨t, ht, et⟩ := i32_31 (sw_ushr (la l 0) 3)
  obtain ⟨v, hv, ev⟩ := i32_255 (sw_ushr (la l 0) 16)
  refine ⟨t, v, et, ?_, ev, ?_⟩
  · rw [show wsn (la l) = nI t from et, nI_leI (by omega) (by omega)] at a3
    omega
  · rw [show wwa (la l) = nI v from ev, nI_ltI (by omega) (by omega)] at a5
    omega
theorem wsk_1 {P : az_P} {w : Int32 → Int32} (h : ¬ wsk P w = 0) (h1 : wkd w = 1) : ¬ wct w < 1 ∧ ¬ nI (P 1) < wct w ∧ ¬ wam w = 0 := by
  unfold wsk at h
  rw [if_neg (by rw [h1]; decide), if_pos h1] at h
  by_cases a1 : wct w < 1
  · rw [if_pos a1] at h; exact absurd rfl h
  · rw [if_neg a1] at h
    by_cases a2 : nI (P 1) < wct w
    · rw [if_pos a2] at h; exact absurd rfl h
    · rw [if_neg a2] at h
      by_cases a3 : wam w = 0
      · rw [if_pos a3] at h; exact absurd rfl h
      · exact ⟨a1, a2, a3⟩
theorem wsk_2 {P : az_P} {w : Int32 → Int32} (h : ¬ wsk P w = 0) (h1 : wkd w = 2) : wct w = 0 ∧ ¬ w 1 ≤ 0 := by
  unfold wsk at h
  rw [if_neg (by rw [h1]; decide), if_neg (by rw [h1]; decide), if_pos h1] at h
  by_cases a1 : wct w = 0
  · rw [if_pos a1] at h
    by_cases a2 : w 1 ≤ 0
    · rw [if_pos a2] at h; exact absurd rfl h
    · exact ⟨a1, a2⟩
  · rw [if_neg a1] at h; exact absurd rfl h
/-! settling -/
theorem sd_dr_ab {P : az_P} (hP : az_ok P) {σ : sw_S} {A : az} {Q SP : Nat → List Nat} (h : cr P σ A Q SP) (r : Nat) : ∀ n : Nat, n ≤ (A.2.2 r).length → cr P (sd_dr (lz P) r n σ) (af A r ((A.2.2 r).drop n)) Q SP ∧ ∀ c, ¬ c = 3 → sd_dr (lz P) r n σ c = σ c
  | 0, _ => by
    rw [List.drop_zero]
    refine ⟨?_, fun _ _ => rfl⟩
    have e : af A r (A.2.2 r) = A := by
      unfold af
      have : u1 A.2.2 r (A.2.2 r) = A.2.2 := by
        funext r'
        unfold u1
        split
        · rename_i hr
          rw [hr]
        · rfl
      rw [this]
    rw [e]
    exact h
  | n + 1, hn => by
    obtain ⟨ih, ihk⟩ := sd_dr_ab hP h r n (by omega)
    have hd : (A.2.2 r).drop n = (A.2.2 r)[n] :: (A.2.2 r).drop (n + 1) := List.drop_eq_getElem_cons (by omega)
    obtain ⟨-, a2, a3⟩ := rg_df_go hP ih.2.2.2.2.1 (r := r) (l := (A.2.2 r)[n]) (ls := (A.2.2 r).drop (n + 1)) (by rw [← hd]; exact u1_s _ _ _)
    refine ⟨?_, fun c hc => (a3 c hc).trans (ihk c hc)⟩
    have := cr_r ih a2 (fg_eq ih.2.2.2.2.2 (fun k => by rw [a3 2 (by decide)])) (fun c _ _ hc => a3 c hc)
    have e : ((af A r ((A.2.2 r).drop n)).1, (af A r ((A.2.2 r).drop n)).2.1, u1 (af A r ((A.2.2 r).drop n)).2.2 r ((A.2.2 r).drop (n + 1))) = af A r ((A.2.2 r).drop (n + 1)) := by
      unfold af
      have : u1 (u1 A.2.2 r ((A.2.2 r).drop n)) r ((A.2.2 r).drop (n + 1)) = u1 A.2.2 r ((A.2.2 r).drop (n + 1)) := by
        funext r'
        unfold u1
        split <;> rfl
      rw [this]
    rw [e] at this
    exact this
theorem o_sb_of {P : az_P} (hP : az_ok P) {o v : Nat} (ho : o ≤ P 2) (hv : v ≤ P 2) : ∃ c : Nat, o_sb P (nI o) (nI v) = nI c ∧ c ≤ P 2 ∧ c = (if v < o then v + P 2 + 1 - o else v - o) := by
  have hp := hP.2.2.1
  unfold o_sb
  by_cases h : v < o
  · rw [if_pos (nI_lt h (by omega)), if_pos h]
    refine ⟨v + P 2 + 1 - o, ?_, by omega, rfl⟩
    have e : nI v - nI o + nI (P 2) + 1 = nI (v + P 2 + 1) - nI o := by
      rw [← nI_1, ← nI_add, Int32.sub_eq_add_neg, Int32.sub_eq_add_neg]
      rw [Int32.add_assoc (nI v), Int32.add_comm (-nI o), ← Int32.add_assoc, Int32.add_assoc (nI v + nI (P 2)), Int32.add_comm (-nI o), ← Int32.add_assoc]
    rw [e, nI_sub (by omega)]
  · rw [if_neg (nI_nlt (by omega) (by omega)), if_neg h]
    exact ⟨v - o, nI_sub (by omega), by omega, rfl⟩
theorem aiF_drop {P : az_P} {f : az_f} (hF : aiF P f) (r n : Nat) : aiF P (u1 f r ((f r).drop n)) := by
  refine ⟨fun r' h4 => ?_, fun r' => ?_⟩
  · by_cases hr : r' = r
    · subst hr
      rw [u1_s, hF.1 r' h4]
      exact List.drop_nil
    · rw [u1_n _ _ hr]
      exact hF.1 r' h4
  · by_cases hr : r' = r
    · subst hr
      rw [u1_s, List.length_drop]
      have := hF.2 r'
      exact ⟨by omega, fun l hl => this.2 l (List.mem_of_mem_drop hl)⟩
    · rw [u1_n _ _ hr]
      exact hF.2 r'
theorem se_ab {P : az_P} (hP : az_ok P) {σ : sw_S} {A : az} {Q SP : Nat → List Nat} (hai : ai P A) (h : cr P σ A Q SP) (u : Nat) {v : Nat} (hv : v ≤ P 2) : 0 ≤ li_sb 0 (σ 6 u 5) (nI v) σ ∧ cr P (sd_se (lz P) u (nI v) σ) (o_se P u (nI v) A) Q SP ∧ ai P (o_se P u (nI v) A) ∧ (∀ c, ¬ c = 3 → ¬ c = 6 → sd_se (lz P) u (nI v) σ c = σ c) ∧ (∀ r, ¬ r = 2 * u → (o_se P u (nI v) A).2.2 r = A.2.2 r) := by
  have hp := hP.2.2.1
  obtain ⟨o, e1, e2⟩ := hai.v 28 u
  have e5 : σ 6 u 5 = A.1 28 u := h.2.1 u 5 (by decide) (by decide)
  have elb : li_sb 0 (σ 6 u 5) (nI v) σ = o_sb P (A.1 28 u) (nI v) := by
    unfold li_sb o_sb
    rw [e5, h.2.2.1 2 (by decide)]
  obtain ⟨c, c1, c2, -⟩ := o_sb_of hP e2 hv
  rw [← e1] at c1
  obtain ⟨a, -, -, g3, g4, -⟩ := h.2.2.2.2.1 (2 * u)
  have hrl := rl_lt hP (2 * u)
  refine ⟨by rw [elb, c1]; exact nI_pos' (by omega), ?_⟩
  unfold sd_se o_se
  rw [elb, g3, c1]
  by_cases hc : nI c ≤ nI (A.2.2 (2 * u)).length
  · rw [if_pos hc, if_pos hc, nI_clamp (by omega)]
    have hcl : c ≤ (A.2.2 (2 * u)).length := (nI_leI (by omega) (by omega)).mp hc
    obtain ⟨d1, d2⟩ := sd_dr_ab hP h (2 * u) c hcl
    refine ⟨cr_6 d1 u (j := 5) (nI v) (by decide) (by decide), ?_, fun c' h3 h6 => by rw [sw_upc _ h6]; exact d2 c' h3, fun r hr => ?_⟩
    · have : ai P (af A (2 * u) ((A.2.2 (2 * u)).drop c)) := ai_af hai (aiF_drop hai.2.2.2 _ _)
      exact ai_an this ⟨v, rfl, hv⟩
    · exact u1_n _ _ hr
  · rw [if_neg hc, if_neg hc]
    exact ⟨h, hai, fun _ _ _ => rfl, fun _ _ => rfl⟩
