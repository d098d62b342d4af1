/-! The pure part: the model's relation to the abstract state; its small calls -/
theorem nI_mul (a b : Nat) : nI a * nI b = nI (a * b) := (Int32.ofNat_mul a b).symm
theorem nI_div {a b : Nat} (ha : a < 2 ^ 31) (hb : b < 2 ^ 31) : nI a / nI b = nI (a / b) := (Int32.ofNat_div ha hb).symm
theorem nI_rem {a b : Nat} (ha : a < 2 ^ 31) (hb : b < 2 ^ 31) : sw_rem (nI a) (nI b) = nI (a % b) := by
  unfold sw_rem
  rw [nI_div ha hb, nI_mul, nI_sub (Nat.div_mul_le_self a b)]
  congr 1
  have := Nat.div_add_mod a b
  rw [Nat.mul_comm] at this
  omega
theorem mi_n (σ : sw_S) (j : Nat) {n : Nat} (h : n < 2 ^ 31) : mi σ j (nI n) = σ 15 j n := by
  show σ 15 j (nI n).toNatClampNeg = _
  rw [nI_clamp h]
theorem mb_n (σ : sw_S) (j : Nat) {n : Nat} (h : n < 2 ^ 31) : mb σ j (nI n) = σ 16 j n := by
  show σ 16 j (nI n).toNatClampNeg = _
  rw [nI_clamp h]
theorem mis_n (σ : sw_S) (j : Nat) {n : Nat} (h : n < 2 ^ 31) (v : Int32) : mis σ j (nI n) v = sw_up σ 15 j n v := by
  show sw_up σ 15 j (nI n).toNatClampNeg v = _
  rw [nI_clamp h]
theorem mbs_n (σ : sw_S) (j : Nat) {n : Nat} (h : n < 2 ^ 31) (v : Int32) : mbs σ j (nI n) v = sw_up σ 16 j n v := by
  show sw_up σ 16 j (nI n).toNatClampNeg v = _
  rw [nI_clamp h]
theorem up_row (σ : sw_S) (c j x : Nat) (v : Int32) {j' : Nat} (h : ¬ j' = j) : sw_up σ c j x v c j' = σ c j' := by rw [sw_ups, u2_rn _ _ h]
theorem up_rowS (σ : sw_S) (c j x : Nat) (v : Int32) : sw_up σ c j x v c j = u1 (σ c j) x v := by rw [sw_ups, u2_r]
/-- which rows hold numbers of the state: 1 ints, 2 booleans -/
def jk : Nat → Nat
  | 6 => 1 | 8 => 1 | 9 => 1 | 10 => 1 | 14 => 1 | 15 => 1 | 29 => 1 | 30 => 1 | 31 => 1 | 33 => 1 | 34 => 1 | 35 => 1 | 36 => 1 | 37 => 1 | 7 => 2 | 11 => 2 | 12 => 2 | 13 => 2 | 32 => 2 | _ => 0
def mN (σ : sw_S) (n : Nat → Nat → Int32) : Prop := (∀ j, jk j = 1 → σ 15 j = n j) ∧ ∀ j, jk j = 2 → σ 16 j = n j
def mQ (g h m : Nat → Int32) (L : Nat → List (Int32 × Int32)) : Prop := ∀ x, x < 16 → g x = nI (L x).length ∧ ra h (400 * x) ((L x).map Prod.fst) ∧ ra m (400 * x) ((L x).map Prod.snd)
def mG (g h m : Nat → Int32) (W : Nat) (F : Nat → List (List Int32)) : Prop := ∀ s, s < 2 → g s = nI (F s).length ∧ ∀ n, n < (F s).length → h (W * s + n) = nI ((F s).getD n []).length ∧ ra m (19 * (W * s + n)) ((F s).getD n [])
def mr (P : az_P) (σ : sw_S) (A : az) : Prop := (∀ j, j < 6 → σ 8 0 j = nI (P j)) ∧ mN σ A.1 ∧ mQ (σ 15 16) (σ 15 17) (σ 16 18) (A.2.1 0) ∧ mQ (σ 15 19) (σ 15 20) (σ 16 21) (A.2.1 1) ∧ mG (σ 15 22) (σ 15 23) (σ 15 24) 15 (fun s => A.2.2 (2 * s)) ∧ mG (σ 15 25) (σ 15 26) (σ 15 27) 20 (fun s => A.2.2 (2 * s + 1)) ∧ (∀ s, s < 2 → σ 15 28 s = o_nb P s A) ∧ (∀ y, sw_bo (σ 16 18 y)) ∧ ∀ y, sw_bo (σ 16 21 y)
theorem mr.i {P : az_P} {σ : sw_S} {A : az} (h : mr P σ A) (j : Nat) (hj : jk j = 1) {x : Nat} (hx : x < 2 ^ 31) : mi σ j (nI x) = A.1 j x := by
  rw [mi_n σ j hx, h.2.1.1 j hj]
theorem mr.b {P : az_P} {σ : sw_S} {A : az} (h : mr P σ A) (j : Nat) (hj : jk j = 2) {x : Nat} (hx : x < 2 ^ 31) : mb σ j (nI x) = A.1 j x := by
  rw [mb_n σ j hx, h.2.1.2 j hj]
theorem o_nb_an (P : az_P) (s : Nat) (A : az) {j : Nat} (x : Nat) (v : Int32) (hj : ¬ j = 28) : o_nb P s (an A j x v) = o_nb P s A := by
  have e : (an A j x v).1 28 s = A.1 28 s := u2_n _ _ (fun z => hj z.1.symm)
  unfold o_nb
  rw [e]
  rfl
theorem mr_i {P : az_P} {σ : sw_S} {A : az} (h : mr P σ A) {j : Nat} (hj : jk j = 1) (x : Nat) (v : Int32) : mr P (sw_up σ 15 j x v) (an A j x v) := by
  obtain ⟨a1, a2, a3, a4, a5, a6, a7, a8, a9⟩ := h
  have e : ∀ j', ¬ jk j' = 1 → sw_up σ 15 j x v 15 j' = σ 15 j' := fun j' h' => up_row σ 15 j x v (fun z => h' (z ▸ hj))
  have e6 : sw_up σ 15 j x v 16 = σ 16 := sw_upc σ (by decide)
  have e8 : sw_up σ 15 j x v 8 = σ 8 := sw_upc σ (by decide)
  refine ⟨?_, ⟨fun j' hj' => ?_, fun j' hj' => ?_⟩, ?_, ?_, ?_, ?_, fun s hs => ?_, ?_, ?_⟩
  · rw [e8]; exact a1
  · show _ = u2 A.1 j x v j'
    by_cases z : j' = j
    · subst z
      rw [up_rowS, u2_r, a2.1 j' hj']
    · rw [up_row σ 15 j x v z, u2_rn _ _ z, a2.1 j' hj']
  · show _ = u2 A.1 j x v j'
    rw [e6, u2_rn _ _ (fun z => by rw [z, hj] at hj'; exact absurd hj' (by decide)), a2.2 j' hj']
  · rw [e 16 (by decide), e 17 (by decide), e6]; exact a3
  · rw [e 19 (by decide), e 20 (by decide), e6]; exact a4
  · rw [e 22 (by decide), e 23 (by decide), e 24 (by decide)]; exact a5
  · rw [e 25 (by decide), e 26 (by decide), e 27 (by decide)]; exact a6
  · rw [e 28 (by decide), o_nb_an P s A x v (fun z => by rw [z] at hj; exact absurd hj (by decide))]; exact a7 s hs
  · rw [e6]; exact a8
  · rw [e6]; exact a9
theorem mr_b {P : az_P} {σ : sw_S} {A : az} (h : mr P σ A) {j : Nat} (hj : jk j = 2) (x : Nat) (v : Int32) : mr P (sw_up σ 16 j x v) (an A j x v) := by
  obtain ⟨a1, a2, a3, a4, a5, a6, a7, a8, a9⟩ := h
  have e : ∀ j', ¬ jk j' = 2 → sw_up σ 16 j x v 16 j' = σ 16 j' := fun j' h' => up_row σ 16 j x v (fun z => h' (z ▸ hj))
  have e6 : sw_up σ 16 j x v 15 = σ 15 := sw_upc σ (by decide)
  have e8 : sw_up σ 16 j x v 8 = σ 8 := sw_upc σ (by decide)
  refine ⟨?_, ⟨fun j' hj' => ?_, fun j' hj' => ?_⟩, ?_, ?_, ?_, ?_, fun s hs => ?_, ?_, ?_⟩
  · rw [e8]; exact a1
  · show _ = u2 A.1 j x v j'
    rw [e6, u2_rn _ _ (fun z => by rw [z, hj] at hj'; exact absurd hj' (by decide)), a2.1 j' hj']
  · show _ = u2 A.1 j x v j'
    by_cases z : j' = j
    · subst z
      rw [up_rowS, u2_r, a2.2 j' hj']
    · rw [up_row σ 16 j x v z, u2_rn _ _ z, a2.2 j' hj']
  · rw [e 18 (by decide), e6]; exact a3
  · rw [e 21 (by decide), e6]; exact a4
  · rw [e6]; exact a5
  · rw [e6]; exact a6
  · rw [e6, o_nb_an P s A x v (fun z => by rw [z] at hj; exact absurd hj (by decide))]; exact a7 s hs
  · rw [e 18 (by decide)]; exact a8
  · rw [e 21 (by decide)]; exact a9
/-- scratch may change -/
theorem mr_s {P : az_P} {σ σ' : sw_S} {A : az} (h : mr P σ A) (h8 : ∀ j, j < 6 → σ' 8 0 j = σ 8 0 j) (h15 : ∀ j, ¬ j = 38 → σ' 15 j = σ 15 j) (h16 : σ' 16 = σ 16) : mr P σ' A := by
  obtain ⟨a1, a2, a3, a4, a5, a6, a7, a8, a9⟩ := h
  refine ⟨fun j hj => ?_, ⟨fun j' hj' => ?_, fun j' hj' => ?_⟩, ?_, ?_, ?_, ?_, fun s hs => ?_, ?_, ?_⟩
  · rw [h8 j hj]; exact a1 j hj
  · rw [h15 j' (fun z => by rw [z] at hj'; exact absurd hj' (by decide))]; exact a2.1 j' hj'
  · rw [h16]; exact a2.2 j' hj'
  · rw [h15 16 (by decide), h15 17 (by decide), h16]; exact a3
  · rw [h15 19 (by decide), h15 20 (by decide), h16]; exact a4
  · rw [h15 22 (by decide), h15 23 (by decide), h15 24 (by decide)]; exact a5
  · rw [h15 25 (by decide), h15 26 (by decide), h15 27 (by decide)]; exact a6
  · rw [h15 28 (by decide)]; exact a7 s hs
  · rw [h16]; exact a8
  · rw [h16]; exact a9
theorem jk_q {j : Nat} (h : jk j = 1) : ¬ j = 16 ∧ ¬ j = 17 ∧ ¬ j = 19 ∧ ¬ j = 20 ∧ ¬ j = 22 ∧ ¬ j = 23 ∧ ¬ j = 24 ∧ ¬ j = 25 ∧ ¬ j = 26 ∧ ¬ j = 27 ∧ ¬ j = 28 := by
  refine ⟨?_, ?_, ?_, ?_, ?_, ?_, ?_, ?_, ?_, ?_, ?_⟩ <;> (intro z; rw [z] at h; exact absurd h (by decide))
theorem mr_q0 {P : az_P} {σ σ' : sw_S} {A : az} {x : Nat} {l : List (Int32 × Int32)} (h : mr P σ A) (h8 : σ' 8 = σ 8) (h15 : ∀ j, ¬ j = 16 → ¬ j = 17 → σ' 15 j = σ 15 j) (h16 : ∀ j, ¬ j = 18 → σ' 16 j = σ 16 j) (hQ : mQ (σ' 15 16) (σ' 15 17) (σ' 16 18) (u1 (A.2.1 0) x l)) (hb : ∀ y, sw_bo (σ' 16 18 y)) : mr P σ' (aq A 0 x l) := by
  obtain ⟨a1, a2, a3, a4, a5, a6, a7, a8, a9⟩ := h
  refine ⟨fun j hj => ?_, ⟨fun j' hj' => ?_, fun j' hj' => ?_⟩, ?_, ?_, ?_, ?_, fun s hs => ?_, hb, ?_⟩
  · rw [h8]; exact a1 j hj
  · have := jk_q hj'
    rw [h15 j' this.1 this.2.1]; exact a2.1 j' hj'
  · rw [h16 j' (fun z => by rw [z] at hj'; exact absurd hj' (by decide))]; exact a2.2 j' hj'
  · show mQ _ _ _ (u2 A.2.1 0 x l 0)
    rw [u2_r]; exact hQ
  · show mQ _ _ _ (u2 A.2.1 0 x l 1)
    rw [u2_rn _ _ (by decide), h15 19 (by decide) (by decide), h15 20 (by decide) (by decide), h16 21 (by decide)]; exact a4
  · rw [h15 22 (by decide) (by decide), h15 23 (by decide) (by decide), h15 24 (by decide) (by decide)]; exact a5
  · rw [h15 25 (by decide) (by decide), h15 26 (by decide) (by decide), h15 27 (by decide) (by decide)]; exact a6
  · rw [h15 28 (by decide) (by decide)]; exact a7 s hs
  · rw [h16 21 (by decide)]; exact a9
theorem mr_q1 {P : az_P} {σ σ' : sw_S} {A : az} {x : Nat} {l : List (Int32 × Int32)} (h : mr P σ A) (h8 : σ' 8 = σ 8) (h15 : ∀ j, ¬ j = 19 → ¬ j = 20 → σ' 15 j = σ 15 j) (h16 : ∀ j, ¬ j = 21 → σ' 16 j = σ 16 j) (hQ : mQ (σ' 15 19) (σ' 15 20) (σ' 16 21) (u1 (A.2.1 1) x l)) (hb : ∀ y, sw_bo (σ' 16 21 y)) : mr P σ' (aq A 1 x l) := by
  obtain ⟨a1, a2, a3, a4, a5, a6, a7, a8, a9⟩ := h
  refine ⟨fun j hj => ?_, ⟨fun j' hj' => ?_, fun j' hj' => ?_⟩, ?_, ?_, ?_, ?_, fun s hs => ?_, ?_, hb⟩
  · rw [h8]; exact a1 j hj
  · have := jk_q hj'
    rw [h15 j' this.2.2.1 this.2.2.2.1]; exact a2.1 j' hj'
  · rw [h16 j' (fun z => by rw [z] at hj'; exact absurd hj' (by decide))]; exact a2.2 j' hj'
  · show mQ _ _ _ (u2 A.2.1 1 x l 0)
    rw [u2_rn _ _ (by decide), h15 16 (by decide) (by decide), h15 17 (by decide) (by decide), h16 18 (by decide)]; exact a3
  · show mQ _ _ _ (u2 A.2.1 1 x l 1)
    rw [u2_r]; exact hQ
  · rw [h15 22 (by decide) (by decide), h15 23 (by decide) (by decide), h15 24 (by decide) (by decide)]; exact a5
  · rw [h15 25 (by decide) (by decide), h15 26 (by decide) (by decide), h15 27 (by decide) (by decide)]; exact a6
  · rw [h15 28 (by decide) (by decide)]; exact a7 s hs
  · rw [h16 18 (by decide)]; exact a8
/-- the frames sent and not yet told of: a new list -/
theorem mr_f0 {P : az_P} {σ σ' : sw_S} {A : az} {s0 : Nat} {l : List (List Int32)} {v : Int32} (h : mr P σ A) (h8 : σ' 8 = σ 8) (h16 : σ' 16 = σ 16) (h15 : ∀ j, ¬ j = 22 → ¬ j = 23 → ¬ j = 24 → ¬ j = 28 → σ' 15 j = σ 15 j) (hG : mG (σ' 15 22) (σ' 15 23) (σ' 15 24) 15 (u1 (fun s => A.2.2 (2 * s)) s0 l)) (h28 : ∀ s, s < 2 → σ' 15 28 s = o_nb P s (an (af A (2 * s0) l) 28 s0 v)) : mr P σ' (an (af A (2 * s0) l) 28 s0 v) := by
  obtain ⟨a1, a2, a3, a4, a5, a6, a7, a8, a9⟩ := h
  refine ⟨fun j hj => ?_, ⟨fun j' hj' => ?_, fun j' hj' => ?_⟩, ?_, ?_, ?_, ?_, h28, ?_, ?_⟩
  · rw [h8]; exact a1 j hj
  · have := jk_q hj'
    rw [h15 j' this.2.2.2.2.1 this.2.2.2.2.2.1 this.2.2.2.2.2.2.1 this.2.2.2.2.2.2.2.2.2.2]
    show _ = u2 A.1 28 s0 v j'
    rw [u2_rn _ _ this.2.2.2.2.2.2.2.2.2.2]; exact a2.1 j' hj'
  · rw [h16]
    show _ = u2 A.1 28 s0 v j'
    rw [u2_rn _ _ (fun z => by rw [z] at hj'; exact absurd hj' (by decide))]; exact a2.2 j' hj'
  · rw [h15 16 (by decide) (by decide) (by decide) (by decide), h15 17 (by decide) (by decide) (by decide) (by decide), h16]; exact a3
  · rw [h15 19 (by decide) (by decide) (by decide) (by decide), h15 20 (by decide) (by decide) (by decide) (by decide), h16]; exact a4
  · have e : (fun s => (an (af A (2 * s0) l) 28 s0 v).2.2 (2 * s)) = u1 (fun s => A.2.2 (2 * s)) s0 l := by
      funext s
      show u1 A.2.2 (2 * s0) l (2 * s) = _
      unfold u1
      by_cases z : s = s0
      · rw [if_pos (by omega), if_pos z]
      · rw [if_neg (by omega), if_neg z]
    rw [e]; exact hG
  · have e : (fun s => (an (af A (2 * s0) l) 28 s0 v).2.2 (2 * s + 1)) = fun s => A.2.2 (2 * s + 1) := by
      funext s
      show u1 A.2.2 (2 * s0) l (2 * s + 1) = _
      rw [u1_n _ _ (by omega)]
    rw [e, h15 25 (by decide) (by decide) (by decide) (by decide), h15 26 (by decide) (by decide) (by decide) (by decide), h15 27 (by decide) (by decide) (by decide) (by decide)]; exact a6
  · rw [h16]; exact a8
  · rw [h16]; exact a9
/-- the wire: a new list -/
theorem mr_f1 {P : az_P} {σ σ' : sw_S} {A : az} {s0 : Nat} {l : List (List Int32)} (h : mr P σ A) (h8 : σ' 8 = σ 8) (h16 : σ' 16 = σ 16) (h15 : ∀ j, ¬ j = 25 → ¬ j = 26 → ¬ j = 27 → σ' 15 j = σ 15 j) (hG : mG (σ' 15 25) (σ' 15 26) (σ' 15 27) 20 (u1 (fun s => A.2.2 (2 * s + 1)) s0 l)) : mr P σ' (af A (2 * s0 + 1) l) := by
  obtain ⟨a1, a2, a3, a4, a5, a6, a7, a8, a9⟩ := h
  have e0 : ∀ s, (af A (2 * s0 + 1) l).2.2 (2 * s) = A.2.2 (2 * s) := fun s => u1_n _ _ (by omega)
  refine ⟨fun j hj => ?_, ⟨fun j' hj' => ?_, fun j' hj' => ?_⟩, ?_, ?_, ?_, ?_, fun s hs => ?_, ?_, ?_⟩
  · rw [h8]; exact a1 j hj
  · have := jk_q hj'
    rw [h15 j' this.2.2.2.2.2.2.2.1 this.2.2.2.2.2.2.2.2.1 this.2.2.2.2.2.2.2.2.2.1]; exact a2.1 j' hj'
  · rw [h16]; exact a2.2 j' hj'
  · rw [h15 16 (by decide) (by decide) (by decide), h15 17 (by decide) (by decide) (by decide), h16]; exact a3
  · rw [h15 19 (by decide) (by decide) (by decide), h15 20 (by decide) (by decide) (by decide), h16]; exact a4
  · have e : (fun s => (af A (2 * s0 + 1) l).2.2 (2 * s)) = fun s => A.2.2 (2 * s) := funext e0
    rw [e, h15 22 (by decide) (by decide) (by decide), h15 23 (by decide) (by decide) (by decide), h15 24 (by decide) (by decide) (by decide)]; exact a5
  · have e : (fun s => (af A (2 * s0 + 1) l).2.2 (2 * s + 1)) = u1 (fun s => A.2.2 (2 * s + 1)) s0 l := by
      funext s
      show u1 A.2.2 (2 * s0 + 1) l (2 * s + 1) = _
      unfold u1
      by_cases z : s = s0
      · rw [if_pos (by omega), if_pos z]
      · rw [if_neg (by omega), if_neg z]
    rw [e]; exact hG
  · have e : o_nb P s (af A (2 * s0 + 1) l) = o_nb P s A := by
      unfold o_nb
      rw [e0]
      rfl
    rw [h15 28 (by decide) (by decide) (by decide), e]; exact a7 s hs
  · rw [h16]; exact a8
  · rw [h16]; exact a9
/-! small calls -/
theorem mr_pt {P : az_P} (hP : az_ok P) {σ : sw_S} {A : az} (h : mr P σ A) (i t : Int32) : mo_pt 0 i t σ := by
  have hp := hP.1
  intro hn
  rcases dX_of hP i t with ⟨s, x, hs, hx, hi, -, -, -, -, -, -, -, h6⟩ | ⟨-, -, h5⟩
  · rw [h6, hi]
    exact ⟨vp_in_nI (by omega) (by decide), vp_in_nI hs (by decide)⟩
  · exact absurd (h5 σ (h.1 0 (by decide))) hn
theorem mr_be {P : az_P} {σ : sw_S} {A : az} (h : mr P σ A) {x : Nat} (hx : x < 2 ^ 31) : mr P (mo_be 0 (nI x) σ) (an (an A 6 x 1) 8 x (nI (P 5))) := by
  unfold mo_be
  rw [mis_n σ 6 hx, mis_n _ 8 hx, sw_upc σ (by decide : ¬ 8 = 15), h.1 5 (by decide)]
  exact mr_i (mr_i h (j := 6) rfl x 1) (j := 8) rfl x (nI (P 5))
theorem L_open {P : az_P} (hP : az_ok P) {σ : sw_S} {A : az} (h : mr P σ A) (i t : Int32) : (gX8_open (lz P) 0 i t σ).1 ∧ (mo_op 0 i t σ).1 = (O_open P i t A).1 ∧ mr P (mo_op 0 i t σ).2 (O_open P i t A).2 := by
  have hp := hP.1
  refine ⟨⟨lz_mo P, mr_pt hP h i t⟩, ?_⟩
  rcases dX_of hP i t with ⟨s, x, hs, hx, -, -, -, h1, -, -, -, h5, h6⟩ | ⟨h1, -, h5⟩
  · unfold O_open mo_op
    rw [h1, h5 σ (h.1 0 (by decide)), h6, if_neg (by decide), h.i 6 rfl (x := 8 * s + x) (by omega)]
    show (if A.1 6 (8 * s + x) = 0 then (1, mbs (mo_be 0 (nI (8 * s + x)) σ) 11 (nI (8 * s + x)) 1) else (0, σ)).1 = (o_open P (8 * s + x) A).1 ∧ mr P (if A.1 6 (8 * s + x) = 0 then (1, mbs (mo_be 0 (nI (8 * s + x)) σ) 11 (nI (8 * s + x)) 1) else (0, σ)).2 (o_open P (8 * s + x) A).2
    unfold o_open
    by_cases c : A.1 6 (8 * s + x) = 0
    · rw [if_pos c, if_pos c]
      refine ⟨rfl, ?_⟩
      show mr P (mbs (mo_be 0 (nI (8 * s + x)) σ) 11 (nI (8 * s + x)) 1) _
      rw [mbs_n _ 11 (by omega)]
      exact mr_b (mr_be h (by omega)) (j := 11) rfl _ 1
    · rw [if_neg c, if_neg c]
      exact ⟨rfl, h⟩
  · unfold O_open mo_op
    rw [h1, h5 σ (h.1 0 (by decide)), if_pos rfl]
    exact ⟨rfl, h⟩
theorem L_close {P : az_P} (hP : az_ok P) {σ : sw_S} {A : az} (h : mr P σ A) (i t : Int32) : (gX8_close (lz P) 0 i t σ).1 ∧ (mo_cl 0 i t σ).1 = (O_close P i t A).1 ∧ mr P (mo_cl 0 i t σ).2 (O_close P i t A).2 := by
  have hp := hP.1
  refine ⟨⟨lz_mo P, mr_pt hP h i t⟩, ?_⟩
  rcases dX_of hP i t with ⟨s, x, hs, hx, -, -, -, h1, -, -, -, h5, h6⟩ | ⟨h1, -, h5⟩
  · unfold O_close mo_cl
    rw [h1, h5 σ (h.1 0 (by decide)), h6, if_neg (by decide), h.i 6 rfl (x := 8 * s + x) (by omega)]
    show (if A.1 6 (8 * s + x) = 1 then (1, mbs (mis σ 6 (nI (8 * s + x)) 2) 12 (nI (8 * s + x)) 1) else (0, σ)).1 = (o_close (8 * s + x) A).1 ∧ mr P (if A.1 6 (8 * s + x) = 1 then (1, mbs (mis σ 6 (nI (8 * s + x)) 2) 12 (nI (8 * s + x)) 1) else (0, σ)).2 (o_close (8 * s + x) A).2
    unfold o_close
    by_cases c : A.1 6 (8 * s + x) = 1
    · rw [if_pos c, if_pos c]
      refine ⟨rfl, ?_⟩
      show mr P (mbs (mis σ 6 (nI (8 * s + x)) 2) 12 (nI (8 * s + x)) 1) _
      rw [mbs_n _ 12 (by omega), mis_n _ 6 (by omega)]
      exact mr_b (mr_i h (j := 6) rfl _ 2) (j := 12) rfl _ 1
    · rw [if_neg c, if_neg c]
      exact ⟨rfl, h⟩
  · unfold O_close mo_cl
    rw [h1, h5 σ (h.1 0 (by decide)), if_pos rfl]
    exact ⟨rfl, h⟩
theorem L_weight {P : az_P} (hP : az_ok P) {σ : sw_S} {A : az} (h : mr P σ A) (i t w : Int32) : (gX8_weight (lz P) 0 i t w σ).1 ∧ (mo_we 0 i t w σ).1 = (O_weight P i t w A).1 ∧ mr P (mo_we 0 i t w σ).2 (O_weight P i t w A).2 := by
  have hp := hP.1
  refine ⟨⟨lz_mo P, mr_pt hP h i t⟩, ?_⟩
  rcases dX_of hP i t with ⟨s, x, hs, hx, -, -, -, h1, -, -, -, h5, h6⟩ | ⟨h1, -, h5⟩
  · unfold O_weight mo_we
    rw [h1, h5 σ (h.1 0 (by decide)), h6, if_neg (by decide), h.i 10 rfl (x := 8 * s + x) (by omega), mis_n _ 10 (by omega)]
    by_cases a1 : w < 1
    · rw [if_pos a1]
      dsimp only
      rw [if_pos a1]
      exact ⟨rfl, h⟩
    · rw [if_neg a1]
      dsimp only
      rw [if_neg a1]
      by_cases a2 : w ≤ 4
      · rw [if_pos a2, if_pos a2]
        exact ⟨rfl, mr_i h (j := 10) rfl _ w⟩
      · rw [if_neg a2, if_neg a2]
        exact ⟨rfl, h⟩
  · unfold O_weight mo_we
    rw [h1, h5 σ (h.1 0 (by decide)), if_pos rfl]
    exact ⟨rfl, h⟩
theorem L_word {P : az_P} {σ : sw_S} {A : az} (h : mr P σ A) (i : Int32) : (gX8_word (lz P) 0 i σ).1 ∧ mo_wo i σ = O_word i A := by
  rcases dS_of i with ⟨s, hs, he, h1, h2, h3⟩ | ⟨h1, h2, h3⟩
  · refine ⟨⟨lz_mo P, fun _ => by rw [he]; exact vp_in_nI hs (by decide)⟩, ?_⟩
    unfold mo_wo O_word
    rw [h1, h3, if_neg (by decide), he]
    exact h.i 37 rfl (by omega)
  · refine ⟨⟨lz_mo P, fun z => absurd h3 z⟩, ?_⟩
    unfold mo_wo O_word
    rw [h1, h3, if_pos rfl]
theorem L_stream {P : az_P} (hP : az_ok P) {σ : sw_S} {A : az} (h : mr P σ A) (i t w : Int32) : (gX8_stream (lz P) 0 i t w σ).1 ∧ mo_str 0 i t w σ = O_stream P i t w A := by
  have hp := hP.1
  refine ⟨⟨lz_mo P, mr_pt hP h i t⟩, ?_⟩
  rcases dX_of hP i t with ⟨s, x, hs, hx, -, -, -, h1, -, -, -, h5, h6⟩ | ⟨h1, -, h5⟩
  · unfold O_stream mo_str
    rw [h1, h5 σ (h.1 0 (by decide)), h6, if_neg (by decide)]
    show mo_sv (nI (8 * s + x)) w σ = o_stream (8 * s + x) w A
    obtain ⟨y, hy⟩ : ∃ y, y = 8 * s + x := ⟨_, rfl⟩
    rw [← hy]
    have hy31 : y < 2 ^ 31 := by omega
    have e4 : mi σ 16 (nI y) = nI (A.2.1 0 y).length := by rw [mi_n σ 16 hy31]; exact (h.2.2.1 y (by omega)).1
    have e5 : mi σ 19 (nI y) = nI (A.2.1 1 y).length := by rw [mi_n σ 19 hy31]; exact (h.2.2.2.1 y (by omega)).1
    unfold mo_sv o_stream
    rw [h.i 6 rfl hy31, h.b 7 rfl hy31, h.i 8 rfl hy31, h.i 9 rfl hy31, e4, e5, h.b 11 rfl hy31, h.b 12 rfl hy31, h.i 14 rfl hy31, h.i 15 rfl hy31]
  · unfold O_stream mo_str
    rw [h1, h5 σ (h.1 0 (by decide)), if_pos rfl]
