/-! The pure part: the model's queues: free, put, side, receive -/
theorem mr_in {P : az_P} {σ : sw_S} {A : az} (h : mr P σ A) {j : Nat} (hj : jk j = 1) {x : Nat} (hx : x < 2 ^ 31) (v : Int32) : mr P (mis σ j (nI x) v) (an A j x v) := by
  rw [mis_n _ _ hx]
  exact mr_i h hj x v
theorem mr_bn {P : az_P} {σ : sw_S} {A : az} (h : mr P σ A) {j : Nat} (hj : jk j = 2) {x : Nat} (hx : x < 2 ^ 31) (v : Int32) : mr P (mbs σ j (nI x) v) (an A j x v) := by
  rw [mbs_n _ _ hx]
  exact mr_b h hj x v
theorem mo_ix_n (s x : Nat) : mo_ix (nI s) (nI x) = nI (8 * s + x) := by
  show nI 8 * nI s + nI x = _
  rw [nI_mul, nI_add]
theorem mo_rx_n (x n : Nat) : mo_rx (nI x) n = nI (400 * x + n) := by
  show nI 400 * nI x + nI n = _
  rw [nI_mul, nI_add]
theorem mo_ow_n (s n : Nat) : mo_ow (nI s) n = nI (19 * (15 * s + n)) := by
  show nI 19 * (nI 15 * nI s + nI n) = _
  rw [nI_mul, nI_add, nI_mul]
theorem ai_q0 {P : az_P} (hP : az_ok P) {A : az} (h : ai P A) (x : Nat) : (A.2.1 0 x).length ≤ 400 := by
  have hp := hP.2.2.2.1
  by_cases hx : x % 8 < P 0
  · have h1 := h.2.2.1.1 (x / 8)
    have h2 := su_le1 (f := fun t => (A.2.1 0 (8 * (x / 8) + t)).length) hx
    have e : 8 * (x / 8) + x % 8 = x := by omega
    have h2 : (A.2.1 0 (8 * (x / 8) + x % 8)).length ≤ _ := h2
    rw [e] at h2
    omega
  · rw [(h.2.2.1.2 0 x).1 (Or.inl (by omega))]
    exact Nat.zero_le _
theorem ai_q1 {P : az_P} (hP : az_ok P) {A : az} (h : ai P A) (x : Nat) : (A.2.1 1 x).length ≤ P 5 := by
  obtain ⟨d, -, hd⟩ := h.v 9 x
  omega
theorem ai_f {P : az_P} {A : az} (h : ai P A) (s : Nat) : (A.2.2 (2 * s)).length ≤ P 2 ∧ (A.2.2 (2 * s + 1)).length ≤ P 4 := by
  have h1 := (h.2.2.2.2 (2 * s)).1
  have h2 := (h.2.2.2.2 (2 * s + 1)).1
  rw [(rl_e P s).1] at h1
  rw [(rl_e P s).2] at h2
  exact ⟨h1, h2⟩
theorem mr_22 {P : az_P} {σ : sw_S} {A : az} (h : mr P σ A) {s : Nat} (hs : s < 2) : mi σ 22 (nI s) = nI (A.2.2 (2 * s)).length := by
  rw [mi_n σ 22 (by omega)]
  exact (h.2.2.2.2.1 s hs).1
theorem mr_25 {P : az_P} {σ : sw_S} {A : az} (h : mr P σ A) {s : Nat} (hs : s < 2) : mi σ 25 (nI s) = nI (A.2.2 (2 * s + 1)).length := by
  rw [mi_n σ 25 (by omega)]
  exact (h.2.2.2.2.2.1 s hs).1
theorem mr_16 {P : az_P} {σ : sw_S} {A : az} (h : mr P σ A) {x : Nat} (hx : x < 16) : mi σ 16 (nI x) = nI (A.2.1 0 x).length := by
  rw [mi_n σ 16 (by omega)]
  exact (h.2.2.1 x hx).1
theorem mr_19 {P : az_P} {σ : sw_S} {A : az} (h : mr P σ A) {x : Nat} (hx : x < 16) : mi σ 19 (nI x) = nI (A.2.1 1 x).length := by
  rw [mi_n σ 19 (by omega)]
  exact (h.2.2.2.1 x hx).1
theorem f1_go {P : az_P} (hP : az_ok P) {σ : sw_S} {A : az} (h : mr P σ A) {s : Nat} (hs : s < 2) : ∀ n : Nat, n ≤ P 0 → mo_f1 0 (nI s) σ n = nI (P 3) - nI (su n (o_uf P s A))
  | 0, _ => by
    show σ 8 0 3 = nI (P 3) - nI 0
    rw [nI_0, Int32.sub_zero, h.1 3 (by decide)]
  | n + 1, hn => by
    have hp := hP.1
    have ih := f1_go hP h hs n (by omega)
    show (if mi σ 6 (mo_ix (nI s) (nI n)) = 0 then mo_f1 0 (nI s) σ n - (0 + mi σ 16 (mo_ix (nI s) (nI n))) else mo_f1 0 (nI s) σ n - (σ 8 0 5 + mi σ 16 (mo_ix (nI s) (nI n)))) = nI (P 3) - nI (su n (o_uf P s A) + o_uf P s A n)
    rw [mo_ix_n, ih, h.i 6 rfl (x := 8 * s + n) (by omega), mr_16 h (x := 8 * s + n) (by omega), h.1 5 (by decide), Int32.zero_add]
    unfold o_uf
    by_cases h0 : A.1 6 (8 * s + n) = 0
    · rw [if_pos h0, if_pos h0, Nat.add_zero, i32_ss, nI_add]
    · rw [if_neg h0, if_neg h0, i32_ss, nI_add, nI_add, Nat.add_comm (P 5)]
theorem la_0 {l : List Int32} (h : 0 < l.length) (hl : l.length < 2 ^ 31) : la l 0 = l.getD 0 0 := by
  have := la_nI hl (j := 0) h
  rw [nI_0] at this
  exact this
theorem mr_24 {P : az_P} (hP : az_ok P) {σ : sw_S} {A : az} (h : mr P σ A) (hai : ai P A) {s n : Nat} (hs : s < 2) (hn : n < (A.2.2 (2 * s)).length) : σ 15 24 (19 * (15 * s + n)) = la ((A.2.2 (2 * s)).getD n []) 0 := by
  have hp := hP.2.1
  have h1 := ((h.2.2.2.2.1 s hs).2 n hn).2
  have hm := (hai.2.2.2.2 (2 * s)).2 _ (getD_mem hn)
  have h2 := h1 0 (by show 0 < ((A.2.2 (2 * s)).getD n []).length; omega)
  rw [la_0 (by omega) (by omega)]
  exact h2
theorem f2_go {P : az_P} (hP : az_ok P) {σ : sw_S} {A : az} (hai : ai P A) (h : mr P σ A) {s : Nat} (hs : s < 2) (a : Int32) : ∀ n : Nat, n ≤ (A.2.2 (2 * s)).length → mo_f2 (nI s) σ a n = a - nI (o_io (A.2.2 (2 * s)) n)
  | 0, _ => by
    show a = a - nI 0
    rw [nI_0, Int32.sub_zero]
  | n + 1, hn => by
    have hp := hP.2.2.1
    have hf := (ai_f hai s).1
    have ih := f2_go hP hai h hs a n (by omega)
    obtain ⟨l, hl⟩ : ∃ l, l = (A.2.2 (2 * s)).getD n [] := ⟨_, rfl⟩
    have e24 : mi σ 24 (mo_ow (nI s) n) = la l 0 := by
      rw [mo_ow_n, mi_n σ 24 (by omega), mr_24 hP h hai hs (by omega), hl]
    have hm := (hai.2.2.2.2 (2 * s)).2 _ (getD_mem (n := n) (by omega))
    rw [← hl] at hm
    show (if mi σ 24 (mo_ow (nI s) n) &&& 7 = 1 then mo_f2 (nI s) σ a n - sw_ushr (mi σ 24 (mo_ow (nI s) n)) 24 else mo_f2 (nI s) σ a n - 0) = a - nI (o_io (A.2.2 (2 * s)) n + o_ct ((A.2.2 (2 * s)).getD n []))
    rw [e24, ih, ← hl]
    by_cases c : la l 0 &&& 7 = 1
    · rw [if_pos c, (o_ct_of l).1, i32_ss, nI_add]
    · have hz := hm.2 (by omega) c
      have hz2 : o_ct l = 0 := by
        unfold o_ct
        rw [hz]
        rfl
      rw [if_neg c, hz2, Int32.sub_zero, Nat.add_zero]
theorem o_ut_lt {P : az_P} (hP : az_ok P) {A : az} (hai : ai P A) (s : Nat) : o_ut P s A < 40000 := by
  have hp := hP.1
  have hr := hP.2.2.2.2.2
  have hp2 := hP.2.2.1
  have h1 := o_io_le (A.2.2 (2 * s)) (A.2.2 (2 * s)).length
  have h2 := (ai_f hai s).1
  have h4 : su (P 0) (o_uf P s A) ≤ P 0 * 600 := by
    rw [← su_const 600 (P 0)]
    refine su_mono (fun i _ => ?_)
    have := ai_q0 hP hai (8 * s + i)
    unfold o_uf
    split <;> omega
  have h5 : (A.2.2 (2 * s)).length * 255 ≤ 15 * 255 := Nat.mul_le_mul (by omega) (Nat.le_refl _)
  have h6 : P 0 * 600 ≤ 8 * 600 := Nat.mul_le_mul hp.2 (Nat.le_refl _)
  unfold o_ut
  omega
theorem mo_fr_go {P : az_P} (hP : az_ok P) {σ : sw_S} {A : az} (hai : ai P A) (h : mr P σ A) {s : Nat} (hs : s < 2) : mo_fr 0 (nI s) σ = o_fr P s A := by
  have hp := hP.1
  have hp2 := hP.2.2.1
  have hp3 := hP.2.2.2.1
  have hf := (ai_f hai s).1
  have hu := o_ut_lt hP hai s
  have e : mo_fx 0 (nI s) σ = nI (P 3) - nI (o_ut P s A) := by
    unfold mo_fx
    rw [h.1 0 (by decide), nI_clamp (by omega), mr_22 h hs, nI_clamp (by omega), f2_go hP hai h hs _ _ (Nat.le_refl _), f1_go hP h hs _ (Nat.le_refl _), i32_ss, nI_add]
    unfold o_ut
    rw [Nat.add_comm (su (P 0) (o_uf P s A))]
  unfold mo_fr o_fr
  rw [e]
  by_cases hl : o_ut P s A < P 3
  · rw [if_pos hl, nI_sub (by omega), if_neg (nI_nle (by omega) (by omega))]
  · rw [if_neg hl, if_pos (nI_sub0 (by omega) (by omega))]
theorem mr_fp {P : az_P} (hP : az_ok P) {σ : sw_S} {A : az} (hai : ai P A) (h : mr P σ A) {s : Nat} (hs : s < 2) : mo_fp 0 (nI s) σ := by
  have hp := hP.1
  have hp2 := hP.2.2.1
  have hf := (ai_f hai s).1
  refine ⟨vp_in_nI hs (by decide), ?_, ?_, fun n hn => ?_, fun n hn => ?_⟩
  · rw [h.1 0 (by decide)]
    exact nI_pos' (by omega)
  · rw [mr_22 h hs]
    exact nI_pos' (by omega)
  · rw [h.1 0 (by decide), nI_clamp (by omega)] at hn
    rw [mo_ix_n]
    exact vp_in_nI (by omega) (by decide)
  · rw [mr_22 h hs, nI_clamp (by omega)] at hn
    rw [mo_ow_n]
    exact vp_in_nI (by omega) (by decide)
/-! what is told of a side -/
theorem mr_ol {P : az_P} (hP : az_ok P) {σ : sw_S} {A : az} (hai : ai P A) (h : mr P σ A) {s : Nat} (hs : s < 2) : mo_ol 0 (nI s) σ = A.1 28 s := by
  have hp2 := hP.2.2.1
  have hf := (ai_f hai s).1
  obtain ⟨o, n, h1, h2, h3, h4, h5⟩ := o_nb_of hP hai s hf
  have e28 : mi σ 28 (nI s) = nI n := by
    rw [mi_n σ 28 (by omega), h.2.2.2.2.2.2.1 s hs, h3]
  unfold mo_ol
  rw [e28, mr_22 h hs, h.1 2 (by decide), nI_add, nI_1, nI_1, nI_sub (by omega), nI_rem (by omega) (by omega), h1]
  congr 1
  by_cases hc : o + (A.2.2 (2 * s)).length ≤ P 2
  · rw [if_pos hc] at h5
    subst h5
    rw [show o + (A.2.2 (2 * s)).length + P 2 + 1 - (A.2.2 (2 * s)).length = o + (P 2 + 1) by omega, Nat.add_mod_right, Nat.mod_eq_of_lt (by omega)]
  · rw [if_neg hc] at h5
    rw [show n + P 2 + 1 - (A.2.2 (2 * s)).length = o by omega, Nat.mod_eq_of_lt (by omega)]
theorem L_side {P : az_P} (hP : az_ok P) {σ : sw_S} {A : az} (hai : ai P A) (h : mr P σ A) (i w : Int32) : (gX8_side (lz P) 0 i w σ).1 ∧ mo_sid 0 i w σ = O_side P i w A := by
  have hp2 := hP.2.2.1
  have h2 : ¬ σ 8 0 2 + 1 = 0 := by
    rw [h.1 2 (by decide), nI_1]
    exact nI_ne0 (by omega) (by omega)
  rcases dS_of i with ⟨s, hs, he, h1, -, h3⟩ | ⟨h1, -, h3⟩
  · refine ⟨⟨lz_mo P, fun _ => by rw [he]; exact mr_fp hP hai h hs, h2⟩, ?_⟩
    unfold mo_sid O_side
    rw [h1, h3, if_neg (by decide), he]
    show mo_sw 0 (nI s) w σ = o_side P s w A
    have hs31 : s < 2 ^ 31 := by omega
    unfold mo_sw o_side
    rw [mo_fr_go hP hai h hs, mr_22 h hs, mr_25 h hs, mr_ol hP hai h hs, h.i 29 rfl hs31, h.i 30 rfl hs31, h.i 31 rfl hs31, h.b 32 rfl hs31, h.i 33 rfl hs31, h.i 34 rfl hs31, h.i 35 rfl hs31, h.i 36 rfl hs31]
  · refine ⟨⟨lz_mo P, fun z => absurd h3 z, h2⟩, ?_⟩
    unfold mo_sid O_side
    rw [h1, h3, if_pos rfl]
/-! queues in rows -/
theorem mQ_app {g h m : Nat → Int32} {L : Nat → List (Int32 × Int32)} (hq : mQ g h m L) (hL : ∀ x, (L x).length ≤ 400) {x : Nat} (hx : x < 16) (hl : (L x).length < 400) (w b : Int32) {g' h' m' : Nat → Int32} (hg : g' = u1 g x (nI ((L x).length + 1))) (hh : h' = u1 h (400 * x + (L x).length) w) (hm : m' = u1 m (400 * x + (L x).length) b) : mQ g' h' m' (u1 L x (L x ++ [(w, b)])) := by
  intro x' hx'
  obtain ⟨a1, a2, a3⟩ := hq x' hx'
  have hl' := hL x'
  by_cases hxx : x' = x
  · subst hxx
    rw [u1_s, hg, hh, hm, u1_s, List.length_append, List.length_singleton, List.map_append, List.map_append]
    refine ⟨rfl, ?_, ?_⟩
    · have := ra_app a2 w
      rw [List.length_map] at this
      exact this
    · have := ra_app a3 b
      rw [List.length_map] at this
      exact this
  · rw [u1_n _ _ hxx, hg, hh, hm, u1_n _ _ hxx]
    refine ⟨a1, ra_out a2 ?_, ra_out a3 ?_⟩ <;> (rw [List.length_map]; omega)
def sh (g : Nat → Int32) (B n c : Nat) : Nat → Int32 := fun z => if B ≤ z ∧ z < B + n then g (z + c) else g z
theorem sh_0 (g : Nat → Int32) (B c : Nat) : sh g B 0 c = g := by
  funext z
  exact if_neg (by omega)
theorem sh_s (g : Nat → Int32) (B n c : Nat) : u1 (sh g B n c) (B + n) (sh g B n c (B + n + c)) = sh g B (n + 1) c := by
  funext z
  unfold u1 sh
  by_cases hz : z = B + n
  · subst hz
    rw [if_pos rfl, if_neg (by omega), if_pos (by omega)]
  · rw [if_neg hz]
    by_cases hz2 : B ≤ z ∧ z < B + n
    · rw [if_pos hz2, if_pos (by omega)]
    · rw [if_neg hz2, if_neg (by omega)]
theorem sh_in {g : Nat → Int32} {B n c j : Nat} (h : j < n) : sh g B n c (B + j) = g (B + (j + c)) := by
  unfold sh
  rw [if_pos (by omega), Nat.add_assoc]
theorem sh_out {g : Nat → Int32} {B n c z : Nat} (h : z < B ∨ B + n ≤ z) : sh g B n c z = g z := if_neg (by omega)
theorem sh_b {g : Nat → Int32} (h : ∀ y, sw_bo (g y)) (B n c z : Nat) : sw_bo (sh g B n c z) := by
  unfold sh
  split
  · exact h _
  · exact h _
theorem mQ_drop {g h m : Nat → Int32} {L : Nat → List (Int32 × Int32)} (hq : mQ g h m L) (hL : ∀ x, (L x).length ≤ 400) {x c : Nat} (hx : x < 16) (hc : c ≤ (L x).length) {g' h' m' : Nat → Int32} (hg : g' = u1 g x (nI ((L x).length - c))) (hh : h' = sh h (400 * x) ((L x).length - c) c) (hm : m' = sh m (400 * x) ((L x).length - c) c) : mQ g' h' m' (u1 L x ((L x).drop c)) := by
  intro x' hx'
  obtain ⟨a1, a2, a3⟩ := hq x' hx'
  have hl' := hL x'
  have hl := hL x
  by_cases hxx : x' = x
  · subst hxx
    rw [u1_s, hg, hh, hm, u1_s, List.length_drop, List.map_drop, List.map_drop]
    refine ⟨rfl, ra_drop a2 (fun j hj => ?_), ra_drop a3 (fun j hj => ?_)⟩
    · rw [List.length_map] at hj
      exact sh_in (by omega)
    · rw [List.length_map] at hj
      exact sh_in (by omega)
  · rw [u1_n _ _ hxx, hg, hh, hm, u1_n _ _ hxx]
    refine ⟨a1, ra_congr a2 (fun j hj => ?_), ra_congr a3 (fun j hj => ?_)⟩
    · rw [List.length_map] at hj
      exact sh_out (by omega)
    · rw [List.length_map] at hj
      exact sh_out (by omega)
/-! put -/
theorem mo_pb_n {P : az_P} (hP : az_ok P) {σ : sw_S} {A : az} (hai : ai P A) (h : mr P σ A) {x : Nat} (hx : x < 16) (w b : Int32) : mo_p1 (nI x) σ = nI (400 * x + (A.2.1 0 x).length) ∧ mo_pb (nI x) w b σ = sw_up (sw_up (sw_up σ 15 17 (400 * x + (A.2.1 0 x).length) w) 16 18 (400 * x + (A.2.1 0 x).length) b) 15 16 x (nI ((A.2.1 0 x).length + 1)) := by
  have hl := ai_q0 hP hai x
  have e : ∀ s : sw_S, s 15 16 = σ 15 16 → mo_p1 (nI x) s = nI (400 * x + (A.2.1 0 x).length) := fun s hs => by
    unfold mo_p1
    rw [mi_n s 16 (by omega), hs, (h.2.2.1 x hx).1]
    show nI 400 * nI x + _ = _
    rw [nI_mul, nI_add]
  refine ⟨e σ rfl, ?_⟩
  unfold mo_pb mo_pa
  rw [e σ rfl, mis_n _ 17 (by omega), e _ (up_row _ _ _ _ _ (by decide)), mbs_n _ 18 (by omega), mis_n _ 16 (by omega), mi_n _ 16 (by omega), sw_upc _ (by decide : ¬ 15 = 16), up_row _ _ _ _ _ (by decide : ¬ 16 = 17), (h.2.2.1 x hx).1, nI_1]
theorem mr_put {P : az_P} (hP : az_ok P) {σ : sw_S} {A : az} (hai : ai P A) (h : mr P σ A) {x : Nat} (hx : x < 16) (hl : (A.2.1 0 x).length < 400) (w : Int32) {b : Int32} (hb : sw_bo b) : mr P (mo_pb (nI x) w b σ) (aq A 0 x (A.2.1 0 x ++ [(w, b)])) := by
  rw [(mo_pb_n hP hai h hx w b).2]
  refine mr_q0 h ?_ (fun j h1 h2 => ?_) (fun j h1 => ?_) (mQ_app h.2.2.1 (ai_q0 hP hai) hx hl w b ?_ ?_ ?_) (fun y => ?_)
  · rw [sw_upc _ (by decide), sw_upc _ (by decide), sw_upc _ (by decide)]
  · rw [up_row _ _ _ _ _ h1, sw_upc _ (by decide), up_row _ _ _ _ _ h2]
  · rw [sw_upc _ (by decide), up_row _ _ _ _ _ h1, sw_upc _ (by decide)]
  · rw [up_rowS, sw_upc _ (by decide), up_row _ _ _ _ _ (by decide)]
  · rw [up_row _ _ _ _ _ (by decide), sw_upc _ (by decide), up_rowS]
  · rw [sw_upc _ (by decide), up_rowS, sw_upc _ (by decide)]
  · rw [sw_upc _ (by decide), up_rowS, sw_upc _ (by decide)]
    unfold u1
    split
    · exact hb
    · exact h.2.2.2.2.2.2.2.1 y
theorem L_put {P : az_P} (hP : az_ok P) {σ : sw_S} {A : az} (hai : ai P A) (h : mr P σ A) (i t w : Int32) {b : Int32} (hb : sw_bo b) : (mo (lz P) ∧ mo_pq 0 i t σ) ∧ (mo_pu 0 i t w b σ).1 = (O_put P i t w b A).1 ∧ mr P (mo_pu 0 i t w b σ).2 (O_put P i t w b A).2 := by
  have hp := hP.1
  have hp3 := hP.2.2.2.1
  rcases dX_of hP i t with ⟨s, x, hs, hx, hi, -, -, h1, -, -, -, h5, h6⟩ | ⟨h1, -, h5⟩
  · have hfr : ¬ o_fr P s A = 0 → (A.2.1 0 (8 * s + x)).length < 400 := fun c2 => by
      have hlt := o_fr_ne c2
      have l0 := o_q0_le P s A
      have l1 : (A.2.1 0 (8 * s + x)).length ≤ _ := su_le1 (f := fun t => (A.2.1 0 (8 * s + t)).length) hx
      omega
    refine ⟨⟨lz_mo P, fun _ => ⟨by rw [hi]; exact mr_fp hP hai h hs, by rw [h6]; exact vp_in_nI (by omega) (by decide), fun c1 c2 => ?_⟩⟩, ?_⟩
    · rw [hi, mo_fr_go hP hai h hs] at c2
      rw [h6, (mo_pb_n hP hai h (x := 8 * s + x) (by omega) w b).1]
      have := hfr c2
      exact vp_in_nI (by omega) (by decide)
    · unfold O_put mo_pu
      rw [h1, h5 σ (h.1 0 (by decide)), h6, if_neg (by decide), h.i 6 rfl (x := 8 * s + x) (by omega), hi, mo_fr_go hP hai h hs]
      show _ = (o_put P s (8 * s + x) w b A).1 ∧ mr P _ (o_put P s (8 * s + x) w b A).2
      unfold o_put
      by_cases c1 : A.1 6 (8 * s + x) = 1
      · rw [if_pos c1, if_pos c1]
        by_cases c2 : o_fr P s A = 0
        · rw [if_pos c2, if_pos c2]
          exact ⟨rfl, h⟩
        · rw [if_neg c2, if_neg c2]
          exact ⟨rfl, mr_put hP hai h (by omega) (hfr c2) w hb⟩
      · rw [if_neg c1, if_neg c1]
        exact ⟨rfl, h⟩
  · refine ⟨⟨lz_mo P, fun z => absurd (h5 σ (h.1 0 (by decide))) z⟩, ?_⟩
    unfold O_put mo_pu
    rw [h1, h5 σ (h.1 0 (by decide)), if_pos rfl]
    exact ⟨rfl, h⟩
/-! receive -/
theorem rl_go {x : Nat} (hx : x < 16) (σ : sw_S) : ∀ n : Nat, n ≤ 400 → mo_rl (nI x) n σ 15 20 = sh (σ 15 20) (400 * x) n 1 ∧ mo_rl (nI x) n σ 16 21 = sh (σ 16 21) (400 * x) n 1 ∧ (∀ j, ¬ j = 20 → mo_rl (nI x) n σ 15 j = σ 15 j) ∧ (∀ j, ¬ j = 21 → mo_rl (nI x) n σ 16 j = σ 16 j) ∧ ∀ c, ¬ c = 15 → ¬ c = 16 → mo_rl (nI x) n σ c = σ c
  | 0, _ => by
    rw [sh_0, sh_0]
    exact ⟨rfl, rfl, fun _ _ => rfl, fun _ _ => rfl, fun _ _ _ => rfl⟩
  | n + 1, hn => by
    obtain ⟨i1, i2, i3, i4, i5⟩ := rl_go hx σ n (by omega)
    obtain ⟨a, ha⟩ : ∃ a, a = mo_rl (nI x) n σ := ⟨_, rfl⟩
    rw [← ha] at i1 i2 i3 i4 i5
    have e : mo_rl (nI x) (n + 1) σ = sw_up (sw_up a 15 20 (400 * x + n) (a 15 20 (400 * x + n + 1))) 16 21 (400 * x + n) (a 16 21 (400 * x + n + 1)) := by
      show mbs (mo_ra (nI x) n (mo_rl (nI x) n σ)) 21 (mo_rx (nI x) n) (mb (mo_ra (nI x) n (mo_rl (nI x) n σ)) 21 (mo_rx (nI x) n + 1)) = _
      rw [← ha]
      unfold mo_ra
      rw [mo_rx_n, nI_1, mis_n _ 20 (by omega), mi_n _ 20 (by omega), mbs_n _ 21 (by omega), mb_n _ 21 (by omega), sw_upc _ (by decide : ¬ 16 = 15)]
    rw [e]
    refine ⟨?_, ?_, fun j hj => ?_, fun j hj => ?_, fun c h1 h2 => ?_⟩
    · rw [sw_upc _ (by decide), up_rowS, i1, sh_s]
    · rw [up_rowS, sw_upc _ (by decide), i2, sh_s]
    · rw [sw_upc _ (by decide), up_row _ _ _ _ _ hj, i3 j hj]
    · rw [up_row _ _ _ _ _ hj, sw_upc _ (by decide), i4 j hj]
    · rw [sw_upc _ h2, sw_upc _ h1, i5 c h1 h2]
theorem mr_pop {P : az_P} (hP : az_ok P) {σ : sw_S} {A : az} (hai : ai P A) (h : mr P σ A) {x : Nat} (hx : x < 16) {p : Int32 × Int32} {r : List (Int32 × Int32)} (hq : A.2.1 1 x = p :: r) : mr P (mo_rl (nI x) r.length (sw_up σ 15 19 x (nI r.length))) (aq A 1 x r) := by
  have hp := hP.2.2.2.2.2
  have hl := ai_q1 hP hai x
  rw [hq, List.length_cons] at hl
  obtain ⟨i1, i2, i3, i4, i5⟩ := rl_go hx (sw_up σ 15 19 x (nI r.length)) r.length (by omega)
  have hd : r = (A.2.1 1 x).drop 1 := by rw [hq]; rfl
  have hlen : (A.2.1 1 x).length - 1 = r.length := by rw [hq]; rfl
  refine mr_q1 h ?_ (fun j h1 h2 => ?_) (fun j h1 => ?_) ?_ (fun y => ?_)
  · rw [i5 8 (by decide) (by decide), sw_upc _ (by decide)]
  · rw [i3 j h2, up_row _ _ _ _ _ h1]
  · rw [i4 j h1, sw_upc _ (by decide)]
  · have := mQ_drop (x := x) (c := 1) (g' := mo_rl (nI x) r.length (sw_up σ 15 19 x (nI r.length)) 15 19) (h' := mo_rl (nI x) r.length (sw_up σ 15 19 x (nI r.length)) 15 20) (m' := mo_rl (nI x) r.length (sw_up σ 15 19 x (nI r.length)) 16 21) h.2.2.2.1 (fun x' => by have := ai_q1 hP hai x'; omega) hx (by rw [hq, List.length_cons]; omega) (by rw [hlen, i3 19 (by decide), up_rowS]) (by rw [hlen, i1, up_row _ _ _ _ _ (by decide)]) (by rw [hlen, i2, sw_upc _ (by decide)])
    rw [← hd] at this
    exact this
  · rw [i2, sw_upc _ (by decide)]
    exact sh_b h.2.2.2.2.2.2.2.2 _ _ _ _
theorem an_cm (A : az) {j x : Nat} {v : Int32} {j' x' : Nat} {v' : Int32} (h : ¬ j = j') : an (an A j x v) j' x' v' = an (an A j' x' v') j x v := by
  unfold an
  refine congrArg (fun z => (z, A.2)) ?_
  funext a b
  show u2 (u2 A.1 j x v) j' x' v' a b = u2 (u2 A.1 j' x' v') j x v a b
  by_cases h1 : a = j ∧ b = x
  · rw [u2_n _ _ (fun z => h (h1.1.symm.trans z.1)), h1.1, h1.2, u2_s, u2_s]
  · rw [u2_n (u2 A.1 j' x' v') _ h1]
    by_cases h2 : a = j' ∧ b = x'
    · rw [h2.1, h2.2, u2_s, u2_s]
    · rw [u2_n _ _ h2, u2_n _ _ h2, u2_n _ _ h1]
theorem an_sf (A : az) {j x : Nat} {v : Int32} (h : v = A.1 j x) : an A j x v = A := by
  unfold an
  rw [h, u2_self]
theorem mr_rv {P : az_P} {σ : sw_S} {B : az} (h : mr P σ B) {s x : Nat} (hs : s < 2) (hx : x < 16) (m w : Int32) : mr P (mo_rz (nI s) (nI x) m w σ) (if m = 0 then an (an (an B 9 x (B.1 9 x + 1)) 14 x (B.1 14 x + 1)) 37 s w else an (an B 9 x (B.1 9 x + 1)) 15 x (B.1 15 x + 1)) := by
  have hs31 : s < 2 ^ 31 := by omega
  have hx31 : x < 2 ^ 31 := by omega
  have h1 : mr P (mo_r3 (nI x) σ) (an B 9 x (B.1 9 x + 1)) := by
    unfold mo_r3
    rw [h.i 9 rfl hx31]
    exact mr_in h rfl hx31 _
  have n14 : (an B 9 x (B.1 9 x + 1)).1 14 x = B.1 14 x := by rw [an_n _ (by decide)]
  have n15 : (an B 9 x (B.1 9 x + 1)).1 15 x = B.1 15 x := by rw [an_n _ (by decide)]
  unfold mo_rz
  by_cases c : m = 0
  · rw [if_pos c]
    have h2 : mr P (mo_r4 (nI x) m (mo_r3 (nI x) σ)) (an (an B 9 x (B.1 9 x + 1)) 14 x (B.1 14 x + 1)) := by
      unfold mo_r4
      rw [if_pos c, h1.i 14 rfl hx31, n14]
      exact mr_in h1 rfl hx31 _
    have h3 : mr P (mo_r5 (nI x) m (mo_r4 (nI x) m (mo_r3 (nI x) σ))) (an (an B 9 x (B.1 9 x + 1)) 14 x (B.1 14 x + 1)) := by
      unfold mo_r5
      rw [if_pos c, h2.i 15 rfl hx31, Int32.add_zero]
      have := mr_in h2 (j := 15) rfl hx31 ((an (an B 9 x (B.1 9 x + 1)) 14 x (B.1 14 x + 1)).1 15 x)
      rw [an_sf _ rfl] at this
      exact this
    unfold mo_r6
    rw [if_pos c]
    exact mr_in h3 rfl hs31 w
  · rw [if_neg c]
    have h2 : mr P (mo_r4 (nI x) m (mo_r3 (nI x) σ)) (an B 9 x (B.1 9 x + 1)) := by
      unfold mo_r4
      rw [if_neg c, h1.i 14 rfl hx31, Int32.add_zero]
      have := mr_in h1 (j := 14) rfl hx31 ((an B 9 x (B.1 9 x + 1)).1 14 x)
      rw [an_sf _ rfl] at this
      exact this
    have h3 : mr P (mo_r5 (nI x) m (mo_r4 (nI x) m (mo_r3 (nI x) σ))) (an (an B 9 x (B.1 9 x + 1)) 15 x (B.1 15 x + 1)) := by
      unfold mo_r5
      rw [if_neg c, h2.i 15 rfl hx31, n15]
      exact mr_in h2 rfl hx31 _
    unfold mo_r6
    rw [if_neg c, h3.i 37 rfl hs31]
    have := mr_in h3 (j := 37) rfl hs31 ((an (an B 9 x (B.1 9 x + 1)) 15 x (B.1 15 x + 1)).1 37 s)
    rw [an_sf _ rfl] at this
    exact this
theorem o_rv_e (s x : Nat) (p : Int32 × Int32) (r : List (Int32 × Int32)) (A : az) : o_rv s x p r A = (if p.2 = 0 then an (an (an (aq A 1 x r) 9 x (A.1 9 x + 1)) 14 x (A.1 14 x + 1)) 37 s p.1 else an (an (aq A 1 x r) 9 x (A.1 9 x + 1)) 15 x (A.1 15 x + 1)) := by
  unfold o_rv o_r3 o_r2 o_r1
  by_cases c : p.2 = 0
  · rw [if_pos c, if_pos c, if_pos c]
    have e9 : (an (an A 37 s p.1) 14 x ((an A 37 s p.1).1 14 x + 1)).1 9 x = A.1 9 x := by
      rw [an_n _ (by decide), an_n _ (by decide)]
    have e14 : (an A 37 s p.1).1 14 x = A.1 14 x := by rw [an_n _ (by decide)]
    show an (aq (an (an A 37 s p.1) 14 x ((an A 37 s p.1).1 14 x + 1)) 1 x r) 9 x ((an (an A 37 s p.1) 14 x ((an A 37 s p.1).1 14 x + 1)).1 9 x + 1) = _
    rw [e9, e14]
    show an (an (an (aq A 1 x r) 37 s p.1) 14 x (A.1 14 x + 1)) 9 x (A.1 9 x + 1) = _
    rw [an_cm (an (aq A 1 x r) 37 s p.1) (by decide : ¬ 14 = 9), an_cm (aq A 1 x r) (by decide : ¬ 37 = 9), an_cm (an (aq A 1 x r) 9 x (A.1 9 x + 1)) (by decide : ¬ 37 = 14)]
  · rw [if_neg c, if_neg c, if_neg c]
    have e9 : (an A 15 x (A.1 15 x + 1)).1 9 x = A.1 9 x := by rw [an_n _ (by decide)]
    show an (aq (an A 15 x (A.1 15 x + 1)) 1 x r) 9 x ((an A 15 x (A.1 15 x + 1)).1 9 x + 1) = _
    rw [e9]
    exact an_cm (aq A 1 x r) (by decide)
theorem L_recv {P : az_P} (hP : az_ok P) {σ : sw_S} {A : az} (hai : ai P A) (h : mr P σ A) (i t : Int32) : (gX8_receive (lz P) 0 i t σ).1 ∧ (mo_re 0 i t σ).1 = (O_recv P i t A).1 ∧ mr P (mo_re 0 i t σ).2 (O_recv P i t A).2 := by
  have hp := hP.1
  have hp5 := hP.2.2.2.2.2
  rcases dX_of hP i t with ⟨s, y, hs, hy, hi, -, -, h1, -, -, -, h5, h6⟩ | ⟨h1, -, h5⟩
  · obtain ⟨x, hx⟩ : ∃ x, x = 8 * s + y := ⟨_, rfl⟩
    have hx16 : x < 16 := by omega
    rw [← hx] at h6
    have hl := ai_q1 hP hai x
    have e19 := mr_19 h hx16
    refine ⟨⟨lz_mo P, h.2.2.2.2.2.2.2.2, mr_pt hP h i t, fun _ hne => ?_⟩, ?_⟩
    · rw [h6] at hne ⊢
      rw [e19] at hne
      have hpos : 0 < (A.2.1 1 x).length := by
        match hq : A.2.1 1 x with
        | [] => rw [hq] at hne; exact absurd nI_0 hne
        | p :: r => rw [List.length_cons]; omega
      unfold mo_rp
      rw [e19, show (1 : Int32) = nI 1 from rfl, nI_sub (by omega), nI_clamp (by omega)]
      refine ⟨?_, nI_pos' (by omega), fun n hn => ?_⟩
      · rw [show (400 : Int32) = nI 400 from rfl, nI_mul]
        exact vp_in_nI (by omega) (by decide)
      · rw [mo_rx_n, nI_add]
        exact ⟨vp_in_nI (by omega) (by decide), vp_in_nI (by omega) (by decide)⟩
    · unfold O_recv mo_re
      rw [h1, h5 σ (h.1 0 (by decide)), h6, if_neg (by decide), h.i 6 rfl (x := x) (by omega), e19, h.b 7 rfl (x := x) (by omega)]
      show _ = (o_recv s (8 * s + y) A).1 ∧ mr P _ (o_recv s (8 * s + y) A).2
      rw [← hx]
      unfold o_recv
      by_cases c1 : A.1 6 x = 0
      · rw [if_pos c1, if_pos c1]
        exact ⟨rfl, h⟩
      · rw [if_neg c1, if_neg c1]
        match hq : A.2.1 1 x with
        | [] =>
          rw [if_pos (by exact nI_0)]
          show _ = (if A.1 7 x = 0 then (3 : Int32) else 4) ∧ mr P _ A
          by_cases c2 : A.1 7 x = 0
          · rw [if_pos c2, if_pos c2]
            exact ⟨rfl, h⟩
          · rw [if_neg c2, if_neg c2]
            exact ⟨rfl, h⟩
        | p :: r =>
          rw [hq, List.length_cons] at hl
          rw [if_neg (nI_ne0 (by rw [List.length_cons]; omega) (by rw [List.length_cons]; omega))]
          obtain ⟨a1, a2, a3⟩ := h.2.2.2.1 x hx16
          rw [hq] at a1 a2 a3
          have f1 : mi σ 20 (400 * nI x) = p.1 := by
            rw [show (400 : Int32) = nI 400 from rfl, nI_mul, mi_n σ 20 (by omega)]
            exact a2 0 (by rw [List.length_map, List.length_cons]; omega)
          have f2 : mb σ 21 (400 * nI x) = p.2 := by
            rw [show (400 : Int32) = nI 400 from rfl, nI_mul, mb_n σ 21 (by omega)]
            exact a3 0 (by rw [List.length_map, List.length_cons]; omega)
          have hrs : mo_rs i (nI x) σ = mo_rz (nI s) (nI x) p.2 p.1 (mo_rl (nI x) r.length (sw_up σ 15 19 x (nI r.length))) := by
            unfold mo_rs mo_r1
            rw [f1, f2, e19, hq, List.length_cons, show (1 : Int32) = nI 1 from rfl, nI_sub (by omega), nI_clamp (by omega), mis_n _ 19 (by omega), hi]
            rfl
          rw [f2]
          refine ⟨rfl, ?_⟩
          show mr P (mo_rs i (nI x) σ) (o_rv s x p r A)
          rw [hrs, o_rv_e]
          exact mr_rv (mr_pop hP hai h hx16 hq) hs hx16 p.2 p.1
  · refine ⟨⟨lz_mo P, h.2.2.2.2.2.2.2.2, mr_pt hP h i t, fun z => absurd (h5 σ (h.1 0 (by decide))) z⟩, ?_⟩
    unfold O_recv mo_re
    rw [h1, h5 σ (h.1 0 (by decide)), if_pos rfl]
    exact ⟨rfl, h⟩
