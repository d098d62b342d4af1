/-! The pure part: simple calls of the class -/
def crx (P : az_P) (σ : sw_S) (A : az) : Prop := ∃ Q SP, cr P σ A Q SP
theorem cr_drop1 {P : az_P} (hP : az_ok P) {σ : sw_S} {A : az} {Q SP : Nat → List Nat} (h : cr P σ A Q SP) {b w : Nat} (hb : b < 2) {p : Int32 × Int32} {r : List (Int32 × Int32)} (hq : A.2.1 b w = p :: r) : crx P (qu_do (lz P) (2 * w + b) σ) (aq A b w r) := by
  have e1 : (2 * w + b) % 2 = b := by omega
  have e2 : (2 * w + b) / 2 = w := by omega
  obtain ⟨⟨Q', SP', h1⟩, h2⟩ := qu_do_ab hP (h.2.2.2.1) (i := 2 * w + b) (p := p) (r := r) (by rw [e1, e2]; exact hq)
  rw [e1, e2] at h1
  exact ⟨Q', SP', cr_q h h1 h2⟩
theorem cr_put1 {P : az_P} (hP : az_ok P) {σ : sw_S} {A : az} {Q SP : Nat → List Nat} (h : cr P σ A Q SP) {b w c : Nat} {l : List Nat} (hb : b < 2) (hs : SP (w / 8) = c :: l) (x m : Int32) : crx P (qu_pu (lz P) (2 * w + b) x m σ) (aq A b w (A.2.1 b w ++ [(x, m)])) := by
  have e1 : (2 * w + b) % 2 = b := by omega
  have e2 : (2 * w + b) / 2 = w := by omega
  obtain ⟨h1, h2⟩ := qu_pu_go hP (h.2.2.2.1) (i := 2 * w + b) (s := w / 8) (c := c) (l := l) (by omega) hs x m
  rw [e1, e2] at h1
  exact ⟨_, _, cr_q h h1 h2⟩
theorem cr_om {P : az_P} (hP : az_ok P) {σ : sw_S} {A : az} {Q SP : Nat → List Nat} (h : cr P σ A Q SP) {b w : Nat} (hb : b < 2) {p : Int32 × Int32} {r : List (Int32 × Int32)} (hq : A.2.1 b w = p :: r) : qu_om (lz P) (2 * w + b) σ = (if p.2 = 0 then 0 else 1) ∧ qu_ow (lz P) (2 * w + b) σ = p.1 := by
  have e1 : (2 * w + b) % 2 = b := by omega
  have e2 : (2 * w + b) / 2 = w := by omega
  exact qu_om_go hP (h.2.2.2.1) (i := 2 * w + b) (p := p) (r := r) (by rw [e1, e2]; exact hq)
theorem cr_len {P : az_P} (hP : az_ok P) {σ : sw_S} {A : az} {Q SP : Nat → List Nat} (h : cr P σ A Q SP) {b : Nat} (w : Nat) (hb : b < 2) : σ 5 (2 * w + b) 3 = nI (A.2.1 b w).length ∧ (A.2.1 b w).length ≤ 2000 := by
  have e1 : (2 * w + b) % 2 = b := by omega
  have e2 : (2 * w + b) / 2 = w := by omega
  have := cQ_len hP (h.2.2.2.1) (2 * w + b)
  rw [e1, e2] at this
  exact ⟨this.1, this.2.1⟩
/-- while a cell is left, there is a spare one -/
theorem cr_spare {P : az_P} (hP : az_ok P) {σ : sw_S} {A : az} {Q SP : Nat → List Nat} (h : cr P σ A Q SP) (hai : aiQ P A.2.1) {s : Nat} (hlt : su (P 0) (fun t => (A.2.1 0 (8 * s + t)).length) + su (P 0) (fun t => (A.2.1 1 (8 * s + t)).length) < az_rm P) : ∃ c l, SP s = c :: l := by
  match hS : SP s with
  | c :: l => exact ⟨c, l, rfl⟩
  | [] =>
    have h1 := (h.2.2.2.1.2 s).2.2
    rw [hS, List.length_nil, Nat.add_zero] at h1
    have e : su 16 (fun i => (Q (16 * s + i)).length) = su 8 (fun t => (A.2.1 0 (8 * s + t)).length + (A.2.1 1 (8 * s + t)).length) := by
      rw [show (16 : Nat) = 2 * 8 from rfl, su_even]
      refine su_congr (fun t ht => ?_)
      have a1 := (cQ_len hP h.2.2.2.1 (16 * s + 2 * t)).2.2
      have a2 := (cQ_len hP h.2.2.2.1 (16 * s + (2 * t + 1))).2.2
      rw [show (16 * s + 2 * t) % 2 = 0 by omega, show (16 * s + 2 * t) / 2 = 8 * s + t by omega] at a1
      rw [show (16 * s + (2 * t + 1)) % 2 = 1 by omega, show (16 * s + (2 * t + 1)) / 2 = 8 * s + t by omega] at a2
      show (Q (16 * s + 2 * t)).length + (Q (16 * s + (2 * t + 1))).length = _
      rw [a1, a2]
    have hp := hP.1
    have z : ∀ b, su 8 (fun t => (A.2.1 b (8 * s + t)).length) = su (P 0) (fun t => (A.2.1 b (8 * s + t)).length) := fun b => su_cut hp.2 (fun i hi hi2 => by
      rw [(hai.2 b (8 * s + i)).1 (Or.inl (by omega))]
      rfl)
    rw [e, su_add, z 0, z 1] at h1
    omega
/-! open, close, weight, word, stream -/
def o_open (P : az_P) (x : Nat) (A : az) : Int32 × az := if A.1 6 x = 0 then (1, an (an (an A 6 x 1) 8 x (nI (P 5))) 11 x 1) else (0, A)
def O_open (P : az_P) (i t : Int32) (A : az) : Int32 × az := match dX P i t with
  | none => (-1, A)
  | some q => o_open P (8 * q.1 + q.2) A
theorem K_open {P : az_P} (hP : az_ok P) {σ : sw_S} {A : az} (h : crx P σ A) (i t : Int32) : (gX7_open (lz P) 0 i t σ).1 ∧ (wi_open (lz P) i t σ).1 = (O_open P i t A).1 ∧ crx P (wi_open (lz P) i t σ).2 (O_open P i t A).2 := by
  refine ⟨lz_lo hP, ?_⟩
  obtain ⟨Q, SP, h⟩ := h
  rcases dX_of hP i t with ⟨s, x, hs, hx, -, -, -, h1, h2, h3, -, -⟩ | ⟨h1, h2, -⟩
  · unfold O_open wi_open
    rw [h1, h3]
    have e3 : σ 1 (8 * s + x) 3 = A.1 6 (8 * s + x) := h.1.2 _ 3 (by decide) (by decide)
    show (if σ 1 (8 * s + x) 3 = 0 then (1 : Int32) else 0) = (o_open P (8 * s + x) A).1 ∧ crx P (if σ 1 (8 * s + x) 3 = 0 then sw_up (fl_bo (8 * s + x) σ) 1 (8 * s + x) 7 1 else σ) (o_open P (8 * s + x) A).2
    unfold o_open
    rw [e3]
    by_cases h0 : A.1 6 (8 * s + x) = 0
    · rw [if_pos h0, if_pos h0, if_pos h0]
      refine ⟨rfl, Q, SP, ?_⟩
      have e2 : fl_bo (8 * s + x) σ = sw_up (sw_up σ 1 (8 * s + x) 3 1) 1 (8 * s + x) 5 (nI (P 5)) := by
        unfold fl_bo
        rw [sw_ups, u2_n _ _ (fun z => absurd z.2 (by decide)), h.1.1]
      rw [e2]
      exact cr_1 (cr_1 (cr_1 h (8 * s + x) (j := 3) 1 (by decide) (by decide)) (8 * s + x) (j := 5) (nI (P 5)) (by decide) (by decide)) (8 * s + x) (j := 7) 1 (by decide) (by decide)
    · rw [if_neg h0, if_neg h0, if_neg h0]
      exact ⟨rfl, Q, SP, h⟩
  · unfold O_open wi_open
    rw [h1, h2]
    exact ⟨rfl, Q, SP, h⟩
def o_close (x : Nat) (A : az) : Int32 × az := if A.1 6 x = 1 then (1, an (an A 6 x 2) 12 x 1) else (0, A)
def O_close (P : az_P) (i t : Int32) (A : az) : Int32 × az := match dX P i t with
  | none => (-1, A)
  | some q => o_close (8 * q.1 + q.2) A
theorem K_close {P : az_P} (hP : az_ok P) {σ : sw_S} {A : az} (h : crx P σ A) (i t : Int32) : (gX7_close (lz P) 0 i t σ).1 ∧ (wi_close (lz P) i t σ).1 = (O_close P i t A).1 ∧ crx P (wi_close (lz P) i t σ).2 (O_close P i t A).2 := by
  refine ⟨lz_lo hP, ?_⟩
  obtain ⟨Q, SP, h⟩ := h
  rcases dX_of hP i t with ⟨s, x, hs, hx, -, -, -, h1, h2, h3, -, -⟩ | ⟨h1, h2, -⟩
  · unfold O_close wi_close
    rw [h1, h3]
    have e3 : σ 1 (8 * s + x) 3 = A.1 6 (8 * s + x) := h.1.2 _ 3 (by decide) (by decide)
    show (if σ 1 (8 * s + x) 3 = 1 then (1 : Int32) else 0) = (o_close (8 * s + x) A).1 ∧ crx P (if σ 1 (8 * s + x) 3 = 1 then sw_up (sw_up σ 1 (8 * s + x) 3 2) 1 (8 * s + x) 8 1 else σ) (o_close (8 * s + x) A).2
    unfold o_close
    rw [e3]
    by_cases h0 : A.1 6 (8 * s + x) = 1
    · rw [if_pos h0, if_pos h0, if_pos h0]
      exact ⟨rfl, Q, SP, cr_1 (cr_1 h (8 * s + x) (j := 3) 2 (by decide) (by decide)) (8 * s + x) (j := 8) 1 (by decide) (by decide)⟩
    · rw [if_neg h0, if_neg h0, if_neg h0]
      exact ⟨rfl, Q, SP, h⟩
  · unfold O_close wi_close
    rw [h1, h2]
    exact ⟨rfl, Q, SP, h⟩
def O_weight (P : az_P) (i t w : Int32) (A : az) : Int32 × az := match dX P i t with
  | none => (-1, A)
  | some q => if w < 1 then (-1, A) else if w ≤ 4 then (A.1 10 (8 * q.1 + q.2), an A 10 (8 * q.1 + q.2) w) else (-1, A)
theorem K_weight {P : az_P} (hP : az_ok P) {σ : sw_S} {A : az} (h : crx P σ A) (i t w : Int32) : (gX7_weight (lz P) 0 i t w σ).1 ∧ (wi_we (lz P) i t w σ).1 = (O_weight P i t w A).1 ∧ crx P (wi_we (lz P) i t w σ).2 (O_weight P i t w A).2 := by
  refine ⟨lz_lo hP, ?_⟩
  obtain ⟨Q, SP, h⟩ := h
  rcases dX_of hP i t with ⟨s, x, hs, hx, -, -, -, h1, h2, h3, -, -⟩ | ⟨h1, h2, -⟩
  · unfold O_weight wi_we
    rw [h1, h3]
    have e3 : σ 1 (8 * s + x) 4 = A.1 10 (8 * s + x) := h.1.2 _ 4 (by decide) (by decide)
    show (if w < 1 then (-1, σ) else if w ≤ 4 then (σ 1 (8 * s + x) 4, sw_up σ 1 (8 * s + x) 4 w) else (-1, σ)).1 = (if w < 1 then (-1, A) else if w ≤ 4 then (A.1 10 (8 * s + x), an A 10 (8 * s + x) w) else (-1, A)).1 ∧ crx P (if w < 1 then (-1, σ) else if w ≤ 4 then (σ 1 (8 * s + x) 4, sw_up σ 1 (8 * s + x) 4 w) else (-1, σ)).2 (if w < 1 then (-1, A) else if w ≤ 4 then (A.1 10 (8 * s + x), an A 10 (8 * s + x) w) else (-1, A)).2
    by_cases a1 : w < 1
    · rw [if_pos a1, if_pos a1]
      exact ⟨rfl, Q, SP, h⟩
    · rw [if_neg a1, if_neg a1]
      by_cases a2 : w ≤ 4
      · rw [if_pos a2, if_pos a2]
        exact ⟨e3, Q, SP, cr_1 h (8 * s + x) (j := 4) w (by decide) (by decide)⟩
      · rw [if_neg a2, if_neg a2]
        exact ⟨rfl, Q, SP, h⟩
  · unfold O_weight wi_we
    rw [h1, h2]
    exact ⟨rfl, Q, SP, h⟩
def O_word (i : Int32) (A : az) : Int32 := match dS i with
  | none => 0
  | some s => A.1 37 s
theorem K_word {P : az_P} {σ : sw_S} {A : az} (h : crx P σ A) (i : Int32) : (gX7_word (lz P) 0 i σ).1 ∧ (wi_word (lz P) i σ).1 = O_word i A ∧ (wi_word (lz P) i σ).2 = σ := by
  obtain ⟨Q, SP, h⟩ := h
  refine ⟨trivial, ?_⟩
  rcases dS_of i with ⟨s, hs, he, h1, h2, h3⟩ | ⟨h1, h2, h3⟩
  · unfold O_word wi_word
    rw [h1, h2]
    exact ⟨h.2.1 s 10 (by decide) (by decide), rfl⟩
  · unfold O_word wi_word
    rw [h1, h2]
    exact ⟨rfl, rfl⟩
def o_stream (x : Nat) (w : Int32) (A : az) : Int32 := if w = 0 then A.1 6 x else if w = 1 then bi (A.1 7 x) else if w = 2 then A.1 8 x else if w = 3 then A.1 9 x else if w = 4 then nI (A.2.1 0 x).length else if w = 5 then nI (A.2.1 1 x).length else if w = 6 then bi (A.1 11 x) else if w = 7 then bi (A.1 12 x) else if w = 8 then A.1 14 x else if w = 9 then A.1 15 x else -1
def O_stream (P : az_P) (i t w : Int32) (A : az) : Int32 := match dX P i t with
  | none => -1
  | some q => o_stream (8 * q.1 + q.2) w A
theorem K_stream {P : az_P} (hP : az_ok P) {σ : sw_S} {A : az} (h : crx P σ A) (i t w : Int32) : (gX7_stream (lz P) 0 i t w σ).1 ∧ (wi_stream (lz P) i t w σ).1 = O_stream P i t w A ∧ (wi_stream (lz P) i t w σ).2 = σ := by
  obtain ⟨Q, SP, h⟩ := h
  refine ⟨lz_lo hP, ?_⟩
  rcases dX_of hP i t with ⟨s, x, hs, hx, -, -, -, h1, h2, h3, -, -⟩ | ⟨h1, h2, -⟩
  · unfold O_stream wi_stream
    rw [h1, h3]
    refine ⟨?_, rfl⟩
    show fl_te (8 * s + x) w σ = o_stream (8 * s + x) w A
    have l0 := (cr_len hP h (b := 0) (8 * s + x) (by decide)).1
    rw [Nat.add_zero] at l0
    unfold fl_te o_stream
    rw [h.1.2 _ 3 (by decide) (by decide), h.1.2 _ 9 (by decide) (by decide), h.1.2 _ 5 (by decide) (by decide), h.1.2 _ 6 (by decide) (by decide), h.1.2 _ 7 (by decide) (by decide), h.1.2 _ 8 (by decide) (by decide), h.1.2 _ 11 (by decide) (by decide), h.1.2 _ 12 (by decide) (by decide), l0, (cr_len hP h (b := 1) (8 * s + x) (by decide)).1]
    rfl
  · unfold O_stream wi_stream
    rw [h1, h2]
    exact ⟨rfl, rfl⟩
/-! receive -/
def o_r1 (s : Nat) (p : Int32 × Int32) (A : az) : az := if p.2 = 0 then an A 37 s p.1 else A
def o_r2 (x : Nat) (p : Int32 × Int32) (B : az) : az := if p.2 = 0 then an B 14 x (B.1 14 x + 1) else an B 15 x (B.1 15 x + 1)
def o_r3 (x : Nat) (C : az) : az := an C 9 x (C.1 9 x + 1)
def o_rv (s x : Nat) (p : Int32 × Int32) (r : List (Int32 × Int32)) (A : az) : az := o_r3 x (aq (o_r2 x p (o_r1 s p A)) 1 x r)
def o_rm (s x : Nat) (A : az) : List (Int32 × Int32) → Int32 × az
  | [] => (if A.1 7 x = 0 then 3 else 4, A)
  | p :: r => (if p.2 = 0 then 1 else 2, o_rv s x p r A)
def o_recv (s x : Nat) (A : az) : Int32 × az := if A.1 6 x = 0 then (0, A) else o_rm s x A (A.2.1 1 x)
def O_recv (P : az_P) (i t : Int32) (A : az) : Int32 × az := match dX P i t with
  | none => (-1, A)
  | some q => o_recv q.1 (8 * q.1 + q.2) A
theorem K_recv {P : az_P} (hP : az_ok P) {σ : sw_S} {A : az} (hai : ai P A) (h : crx P σ A) (i t : Int32) : (gX7_receive (lz P) 0 i t σ).1 ∧ (wi_re (lz P) i t σ).1 = (O_recv P i t A).1 ∧ crx P (wi_re (lz P) i t σ).2 (O_recv P i t A).2 := by
  obtain ⟨Q, SP, h⟩ := h
  refine ⟨⟨lz_lo hP, fun w => ?_⟩, ?_⟩
  · rw [h.1.2 w 8 (by decide) (by decide), h.1.2 w 9 (by decide) (by decide)]
    exact ⟨(hai.1 w).1.2.2.1, (hai.1 w).1.1⟩
  rcases dX_of hP i t with ⟨s, x, hs, hx, -, -, -, h1, h2, h3, -, -⟩ | ⟨h1, h2, -⟩
  · unfold O_recv wi_re
    rw [h1, h2, h3]
    show sd_ti (lz P) (8 * s + x) σ = (o_recv s (8 * s + x) A).1 ∧ crx P (sd_tt (lz P) s (8 * s + x) σ) (o_recv s (8 * s + x) A).2
    obtain ⟨w, hw⟩ : ∃ w, w = 8 * s + x := ⟨_, rfl⟩
    rw [← hw]
    have e3 : σ 1 w 3 = A.1 6 w := h.1.2 _ 3 (by decide) (by decide)
    have e9 : σ 1 w 9 = A.1 7 w := h.1.2 _ 9 (by decide) (by decide)
    unfold sd_ti sd_tt o_recv
    rw [e3, e9]
    by_cases h0 : A.1 6 w = 0
    · rw [if_pos h0, if_pos h0, if_pos h0]
      exact ⟨rfl, Q, SP, h⟩
    · rw [if_neg h0, if_neg h0, if_neg h0]
      have hl := cr_len hP h (b := 1) w (by decide)
      match hq : A.2.1 1 w with
      | [] =>
        rw [hq] at hl
        have hl : σ 5 (2 * w + 1) 3 = 0 := hl.1
        rw [if_pos hl, if_pos hl]
        exact ⟨rfl, Q, SP, h⟩
      | p :: r =>
        rw [hq] at hl
        have hne : ¬ σ 5 (2 * w + 1) 3 = 0 := by
          rw [hl.1]
          exact nI_ne0 (by rw [List.length_cons]; omega) (by omega)
        rw [if_neg hne, if_neg hne]
        obtain ⟨om, ow⟩ := cr_om hP h (b := 1) (by decide) hq
        have hB : ∃ Q SP, cr P (sd_t1 (lz P) s w σ) (o_r1 s p A) Q SP := by
          unfold sd_t1 o_r1
          rw [om, ow]
          by_cases hp : p.2 = 0
          · rw [if_pos hp, if_pos rfl, if_pos hp]
            exact ⟨Q, SP, cr_6 h s (j := 10) p.1 (by decide) (by decide)⟩
          · rw [if_neg hp, if_neg (by decide), if_neg hp]
            exact ⟨Q, SP, h⟩
        obtain ⟨Q1, SP1, hB⟩ := hB
        have hqB : (o_r1 s p A).2.1 1 w = p :: r := by
          unfold o_r1
          split <;> exact hq
        have hC : ∃ Q SP, cr P (fl_d1 (lz P) w (sd_t1 (lz P) s w σ)) (o_r2 w p (o_r1 s p A)) Q SP := by
          unfold fl_d1 o_r2
          rw [(cr_om hP hB (b := 1) (by decide) hqB).1]
          have e11 : sd_t1 (lz P) s w σ 1 w 11 = (o_r1 s p A).1 14 w := hB.1.2 _ 11 (by decide) (by decide)
          have e12 : sd_t1 (lz P) s w σ 1 w 12 = (o_r1 s p A).1 15 w := hB.1.2 _ 12 (by decide) (by decide)
          rw [e11, e12]
          by_cases hp : p.2 = 0
          · rw [if_pos hp, if_pos rfl, if_pos hp]
            exact ⟨Q1, SP1, cr_1 hB w (j := 11) _ (by decide) (by decide)⟩
          · rw [if_neg hp, if_neg (by decide), if_neg hp]
            exact ⟨Q1, SP1, cr_1 hB w (j := 12) _ (by decide) (by decide)⟩
        obtain ⟨Q2, SP2, hC⟩ := hC
        have hqC : (o_r2 w p (o_r1 s p A)).2.1 1 w = p :: r := by
          unfold o_r2
          split <;> exact hqB
        obtain ⟨Q3, SP3, hD⟩ := cr_drop1 hP hC (b := 1) (by decide) hqC
        refine ⟨?_, ?_⟩
        · show (if qu_om (lz P) (2 * w + 1) σ = 0 then (1 : Int32) else 2) = (if p.2 = 0 then 1 else 2)
          rw [om]
          by_cases hp : p.2 = 0
          · rw [if_pos hp, if_pos rfl, if_pos hp]
          · rw [if_neg hp, if_neg (by decide), if_neg hp]
        · show crx P (fl_d2 (lz P) w (fl_d1 (lz P) w (sd_t1 (lz P) s w σ))) (o_rv s w p r A)
          unfold fl_d2 o_rv o_r3
          have e6 : qu_do (lz P) (2 * w + 1) (fl_d1 (lz P) w (sd_t1 (lz P) s w σ)) 1 w 6 = (aq (o_r2 w p (o_r1 s p A)) 1 w r).1 9 w := hD.1.2 _ 6 (by decide) (by decide)
          rw [e6]
          exact ⟨Q3, SP3, cr_1 hD w (j := 6) _ (by decide) (by decide)⟩
  · unfold O_recv wi_re
    rw [h1, h2]
    refine ⟨?_, Q, SP, ?_⟩
    · cases wi_sa i <;> rfl
    · have : (wi_rm (lz P) σ (wi_sa i) none).2 = σ := by cases wi_sa i <;> rfl
      rw [this]
      exact h
