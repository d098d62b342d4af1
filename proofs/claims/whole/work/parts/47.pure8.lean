/-! The pure part: free cells, put, side -/
theorem i32_ss (a b c : Int32) : a - b - c = a - (b + c) := by
  rw [Int32.sub_eq_add_neg, Int32.sub_eq_add_neg, Int32.sub_eq_add_neg, Int32.neg_add, Int32.sub_eq_add_neg, Int32.add_assoc]
theorem nI_z {n : Nat} (h : n < 2 ^ 32) (hz : nI n = 0) : n = 0 := by
  have h1 : (nI n).toBitVec.toNat = 0 := by rw [hz]; rfl
  have e : (nI n).toBitVec = BitVec.ofNat 32 n := rfl
  rw [e, BitVec.toNat_ofNat] at h1
  omega
theorem nI_sub {a b : Nat} (h : b ≤ a) : nI a - nI b = nI (a - b) := by
  have e : a = a - b + b := by omega
  conv => lhs; rw [e, ← nI_add]
  exact Int32.add_sub_cancel _ _
theorem nI_sub0 {a b : Nat} (h : a ≤ b) (hb : b < 2 ^ 31) : nI a - nI b ≤ 0 := by
  refine Int32.not_lt.mp (fun z => ?_)
  obtain ⟨j, hj, e⟩ := nI_of (x := nI a - nI b) (fun y => Int32.lt_irrefl (Int32.lt_trans y z))
  rw [e] at z
  have e2 : nI a = nI (j + b) := by
    rw [← nI_add, ← e]
    exact (Int32.sub_add_cancel _ _).symm
  have e3 : nI (j + (b - a)) = 0 := by
    have : nI (j + b) = nI (j + (b - a)) + nI a := by rw [nI_add]; congr 1; omega
    rw [this] at e2
    have h3 : nI a - nI a = nI (j + (b - a)) + nI a - nI a := congrArg (fun z => z - nI a) e2
    rw [Int32.sub_self, Int32.add_sub_cancel] at h3
    exact h3.symm
  have h0 := nI_z (by omega) e3
  have : j = 0 := by omega
  subst this
  exact Int32.lt_irrefl z
def o_ct (l : List Int32) : Nat := (sw_ushr (la l 0) 24).toNatClampNeg
theorem o_ct_of (l : List Int32) : sw_ushr (la l 0) 24 = nI (o_ct l) ∧ o_ct l < 256 := by
  obtain ⟨n, hn, he⟩ := sw_ushr24 (la l 0)
  unfold o_ct
  rw [he, nI_clamp (by omega)]
  exact ⟨rfl, hn⟩
def o_io (f : List (List Int32)) (n : Nat) : Nat := su n (fun m => o_ct (f.getD m []))
theorem o_io_le (f : List (List Int32)) (n : Nat) : o_io f n ≤ n * 255 := by
  rw [← su_const 255 n]
  exact su_mono (fun i _ => by have := (o_ct_of (f.getD i [])).2; omega)
def o_uf (P : az_P) (s : Nat) (A : az) (t : Nat) : Nat := (A.2.1 0 (8 * s + t)).length + (if A.1 6 (8 * s + t) = 0 then 0 else P 5)
def o_ut (P : az_P) (s : Nat) (A : az) : Nat := o_io (A.2.2 (2 * s)) (A.2.2 (2 * s)).length + su (P 0) (o_uf P s A)
def o_fr (P : az_P) (s : Nat) (A : az) : Int32 := if o_ut P s A < P 3 then nI (P 3 - o_ut P s A) else 0
theorem sd_io_go {P : az_P} (hP : az_ok P) {σ : sw_S} {A : az} {Q SP : Nat → List Nat} (hai : ai P A) (h : cr P σ A Q SP) (s : Nat) : ∀ n : Nat, n ≤ (A.2.2 (2 * s)).length → sd_io (lz P) s σ n = nI (o_io (A.2.2 (2 * s)) n)
  | 0, _ => nI_0.symm
  | n + 1, hn => by
    show sd_io (lz P) s σ n + sd_cx σ (rg_fa (lz P) (2 * s) (nI n) σ) = nI (o_io (A.2.2 (2 * s)) n + o_ct ((A.2.2 (2 * s)).getD n []))
    have hp1 := hP.2.1.2
    obtain ⟨k, k1, k2, -⟩ := rg_fa_go hP h.2.2.2.2.1 (r := 2 * s) (n := n) (by omega)
    have hm := ((hai.2.2.2.2 (2 * s)).2 _ (getD_mem (n := n) (by omega))).1
    rw [sd_io_go hP hai h s n (by omega), k1]
    show nI (o_io (A.2.2 (2 * s)) n) + sw_ushr (fr_at σ k 0) 24 = _
    rw [cFr_la k2 (by omega), (o_ct_of _).1, nI_add]
theorem sd_fc_go {P : az_P} (hP : az_ok P) {σ : sw_S} {A : az} {Q SP : Nat → List Nat} (h : cr P σ A Q SP) (s : Nat) (a : Int32) : ∀ n : Nat, n ≤ P 0 → sd_fc s σ a n = a - nI (su n (o_uf P s A))
  | 0, _ => by
    show a = a - nI 0
    rw [nI_0, Int32.sub_zero]
  | n + 1, hn => by
    have hp := hP.1
    have ih := sd_fc_go hP h s a n (by omega)
    show (if σ 1 (8 * s + (nI n).toNatClampNeg) 3 = 0 then sd_fc s σ a n - σ 5 (2 * (8 * s + (nI n).toNatClampNeg)) 3 else sd_fc s σ a n - σ 5 (2 * (8 * s + (nI n).toNatClampNeg)) 3 - σ 4 0 5) = a - nI (su n (o_uf P s A) + o_uf P s A n)
    have l0 := (cr_len hP h (b := 0) (8 * s + n) (by decide)).1
    rw [Nat.add_zero] at l0
    rw [nI_clamp (by omega), ih, h.1.2 _ 3 (by decide) (by decide), l0, h.2.2.1 5 (by decide)]
    unfold o_uf
    show (if A.1 6 (8 * s + n) = 0 then _ else _) = _
    by_cases h0 : A.1 6 (8 * s + n) = 0
    · rw [if_pos h0, if_pos h0, Nat.add_zero, i32_ss, nI_add]
    · rw [if_neg h0, if_neg h0, i32_ss, nI_add, i32_ss, nI_add]
theorem o_ut_le {P : az_P} (hP : az_ok P) {σ : sw_S} {A : az} {Q SP : Nat → List Nat} (hai : ai P A) (h : cr P σ A Q SP) (s : Nat) : o_ut P s A < 40000 := by
  have hp := hP.1
  have hr := hP.2.2.2.2.2
  have h1 := o_io_le (A.2.2 (2 * s)) (A.2.2 (2 * s)).length
  have h2 := (hai.2.2.2.2 (2 * s)).1
  have h3 := rl_lt hP (2 * s)
  have h4 : su (P 0) (o_uf P s A) ≤ P 0 * 2200 := by
    rw [← su_const 2200 (P 0)]
    refine su_mono (fun i _ => ?_)
    have := (cr_len hP h (b := 0) (8 * s + i) (by decide)).2
    unfold o_uf
    split <;> omega
  have h5 : (A.2.2 (2 * s)).length * 255 ≤ 20 * 255 := Nat.mul_le_mul (by omega) (Nat.le_refl _)
  have h6 : P 0 * 2200 ≤ 8 * 2200 := Nat.mul_le_mul hp.2 (Nat.le_refl _)
  unfold o_ut
  omega
theorem sd_fr_go {P : az_P} (hP : az_ok P) {σ : sw_S} {A : az} {Q SP : Nat → List Nat} (hai : ai P A) (h : cr P σ A Q SP) (s : Nat) : sd_fr (lz P) s σ = o_fr P s A := by
  have h2 := (hai.2.2.2.2 (2 * s)).1
  have h3 := rl_lt hP (2 * s)
  have hle := o_ut_le hP hai h s
  have hc := hP.2.2.2.1
  have e : sd_fc s σ (σ 4 0 3 - sd_io (lz P) s σ (σ 3 (2 * s) 2).toNatClampNeg) (lz P 14 s) = nI (P 3) - nI (o_ut P s A) := by
    obtain ⟨a, -, -, g3, -, -⟩ := h.2.2.2.2.1 (2 * s)
    rw [show lz P 14 s = P 0 from rfl, sd_fc_go hP h s _ (P 0) (Nat.le_refl _), g3, nI_clamp (by omega), sd_io_go hP hai h s _ (Nat.le_refl _), h.2.2.1 3 (by decide), i32_ss, nI_add]
    rfl
  unfold sd_fr o_fr
  rw [e]
  by_cases hl : o_ut P s A < P 3
  · rw [if_pos hl, nI_sub (by omega), if_pos (Int32.not_le.mp (nI_nle (by omega) (by omega)))]
  · rw [if_neg hl, if_neg (Int32.not_lt.mpr (nI_sub0 (by omega) (by omega)))]
theorem cr_rz {P : az_P} (hP : az_ok P) {σ : sw_S} {A : az} {Q SP : Nat → List Nat} (h : cr P σ A Q SP) : rz σ := fun r => by
  obtain ⟨a, -, -, g3, g4, -⟩ := h.2.2.2.2.1 r
  have := rl_lt hP r
  rw [g3]
  exact nI_pos' (by omega)
def o_put (P : az_P) (s x : Nat) (w b : Int32) (A : az) : Int32 × az := if A.1 6 x = 1 then (if o_fr P s A = 0 then (2, A) else (1, aq A 0 x (A.2.1 0 x ++ [(w, b)]))) else (0, A)
def O_put (P : az_P) (i t w b : Int32) (A : az) : Int32 × az := match dX P i t with
  | none => (-1, A)
  | some q => o_put P q.1 (8 * q.1 + q.2) w b A
theorem o_fr_ne {P : az_P} {s : Nat} {A : az} (h : ¬ o_fr P s A = 0) : o_ut P s A < P 3 := by
  by_cases hl : o_ut P s A < P 3
  · exact hl
  · exact absurd (if_neg hl) h
theorem o_q0_le (P : az_P) (s : Nat) (A : az) : su (P 0) (fun t => (A.2.1 0 (8 * s + t)).length) ≤ o_ut P s A := by
  have : su (P 0) (fun t => (A.2.1 0 (8 * s + t)).length) ≤ su (P 0) (o_uf P s A) := su_mono (fun i _ => by unfold o_uf; omega)
  unfold o_ut
  omega
theorem o_q1_le {P : az_P} {A : az} (hai : ai P A) (s : Nat) : su (P 0) (fun t => (A.2.1 1 (8 * s + t)).length) ≤ P 0 * P 5 := by
  rw [← su_const (P 5) (P 0)]
  refine su_mono (fun i _ => ?_)
  obtain ⟨d, -, hd⟩ := (hai.1 (8 * s + i)).2.2.1
  omega
theorem K_put {P : az_P} (hP : az_ok P) {σ : sw_S} {A : az} (hai : ai P A) (h : crx P σ A) (i t w b : Int32) : (lo (lz P) ∧ fg (lz P) σ ∧ rz σ) ∧ (wi_pi (lz P) i t w b σ).1 = (O_put P i t w b A).1 ∧ crx P (wi_pi (lz P) i t w b σ).2 (O_put P i t w b A).2 := by
  obtain ⟨Q, SP, h⟩ := h
  refine ⟨⟨lz_lo hP, h.2.2.2.2.2, cr_rz hP h⟩, ?_⟩
  rcases dX_of hP i t with ⟨s, x, hs, hx, -, -, -, h1, h2, h3, -, -⟩ | ⟨h1, h2, -⟩
  · unfold O_put wi_pi
    rw [h1, h2, h3]
    obtain ⟨v, hv⟩ : ∃ v, v = 8 * s + x := ⟨_, rfl⟩
    show sd_qi (lz P) s (8 * s + x) σ = (o_put P s (8 * s + x) w b A).1 ∧ crx P (if σ 1 (8 * s + x) 3 = 1 then (if sd_fr (lz P) s σ = 0 then σ else qu_pu (lz P) (2 * (8 * s + x)) w b σ) else σ) (o_put P s (8 * s + x) w b A).2
    unfold sd_qi o_put
    rw [← hv, show σ 1 v 3 = A.1 6 v from h.1.2 _ 3 (by decide) (by decide), sd_fr_go hP hai h s]
    by_cases c1 : A.1 6 v = 1
    · rw [if_pos c1, if_pos c1, if_pos c1]
      by_cases c2 : o_fr P s A = 0
      · rw [if_pos c2, if_pos c2, if_pos c2]
        exact ⟨rfl, Q, SP, h⟩
      · rw [if_neg c2, if_neg c2, if_neg c2]
        refine ⟨rfl, ?_⟩
        have hlt := o_fr_ne c2
        have l0 := o_q0_le P s A
        have l1 := o_q1_le hai s
        obtain ⟨c, l, hc⟩ := cr_spare hP h hai.2.2.1 (s := s) (by unfold az_rm; omega)
        have hp := hP.1
        exact cr_put1 hP h (b := 0) (w := v) (by decide) (by rw [show v / 8 = s by omega]; exact hc) w b
    · rw [if_neg c1, if_neg c1, if_neg c1]
      exact ⟨rfl, Q, SP, h⟩
  · unfold O_put wi_pi
    rw [h1, h2]
    have e : wi_pm (lz P) w b σ (wi_sa i) none = (-1, σ) := by cases wi_sa i <;> rfl
    rw [e]
    exact ⟨rfl, Q, SP, h⟩
def o_side (P : az_P) (s : Nat) (w : Int32) (A : az) : Int32 := if w = 0 then o_fr P s A else if w = 1 then nI (A.2.2 (2 * s)).length else if w = 2 then A.1 28 s else if w = 3 then A.1 29 s else if w = 4 then nI (A.2.2 (2 * s + 1)).length else if w = 5 then A.1 30 s else if w = 6 then A.1 31 s else if w = 7 then bi (A.1 32 s) else if w = 8 then A.1 33 s else if w = 9 then A.1 34 s else if w = 10 then A.1 35 s else if w = 11 then A.1 36 s else -1
def O_side (P : az_P) (i w : Int32) (A : az) : Int32 := match dS i with
  | none => -1
  | some s => o_side P s w A
theorem K_side {P : az_P} (hP : az_ok P) {σ : sw_S} {A : az} (hai : ai P A) (h : crx P σ A) (i w : Int32) : (gX7_side (lz P) 0 i w σ).1 ∧ (wi_side (lz P) i w σ).1 = O_side P i w A ∧ (wi_side (lz P) i w σ).2 = σ := by
  obtain ⟨Q, SP, h⟩ := h
  refine ⟨⟨lz_lo hP, h.2.2.2.2.2, cr_rz hP h⟩, ?_⟩
  rcases dS_of i with ⟨s, hs, he, h1, h2, h3⟩ | ⟨h1, h2, h3⟩
  · unfold O_side wi_side
    rw [h1, h2]
    refine ⟨?_, rfl⟩
    show sd_te (lz P) s w σ = o_side P s w A
    unfold sd_te o_side
    obtain ⟨a, -, -, g3, -, -⟩ := h.2.2.2.2.1 (2 * s)
    obtain ⟨a', -, -, g3', -, -⟩ := h.2.2.2.2.1 (2 * s + 1)
    rw [sd_fr_go hP hai h s, g3, g3', h.2.1 s 5 (by decide) (by decide), h.2.1 s 6 (by decide) (by decide), h.2.1 s 7 (by decide) (by decide), h.2.1 s 8 (by decide) (by decide), h.2.1 s 9 (by decide) (by decide), h.2.1 s 11 (by decide) (by decide), h.2.1 s 12 (by decide) (by decide), h.2.1 s 13 (by decide) (by decide), h.2.1 s 14 (by decide) (by decide)]
    rfl
  · unfold O_side wi_side
    rw [h1, h2]
    exact ⟨rfl, rfl⟩
