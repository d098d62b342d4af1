/-! What is made: the reference -/
def mlen (j : Nat) : Nat := ml (6 + j) + mz (6 + j)
def mty (j : Nat) : Nat := if mz (6 + j) = 0 then 0 else 1
def n_ar (n : Nat) (E : Nat → ck_E) : Nat → Nat → ck_E
  | 0 => E
  | i + 1 => u1 (n_ar n E i) (n + i) (.inr (mty i, mlen i, .inl (fun _ => 0)))
def n_mf (n : Nat) (f : Nat → sw_V) : Nat → Nat → sw_V
  | 0 => f
  | i + 1 => u1 (n_mf n f i) (6 + i) (rfv (n + i))
theorem n_ar_lt {n x : Nat} {E : Nat → ck_E} : ∀ i, x < n ∨ n + i ≤ x → n_ar n E i x = E x
  | 0, _ => rfl
  | i + 1, h => by
    show u1 (n_ar n E i) (n + i) _ x = E x
    rw [u1_n _ _ (by omega), n_ar_lt i (by omega)]
theorem n_ar_at {n j : Nat} {E : Nat → ck_E} : ∀ i, j < i → n_ar n E i (n + j) = .inr (mty j, mlen j, .inl (fun _ => 0))
  | i + 1, h => by
    show u1 (n_ar n E i) (n + i) _ (n + j) = _
    by_cases hj : j = i
    · subst hj
      rw [u1_s]
    · rw [u1_n _ _ (by omega), n_ar_at i (by omega)]
def n_mv (n : Nat) (v0 v1 v2 v3 v4 : Int32) : Nat → sw_V := u1 (u1 (u1 (u1 (u1 (u1 (n_mf n (ck_dv 8) 33) 0 (.inl v0)) 1 (.inl v1)) 2 (.inl v2)) 3 (.inl v3)) 4 (.inl v4)) 5 (.inl (n_kept v0 v3))
def n_on (j : Nat) : Nat → Int32 := fun i => if i < j then 1 else 0
def n_le (j : Nat) : Nat → Int32 := if j = 0 then (fun _ => 0) else if j = 1 then u1 (fun _ => 0) 0 1 else u1 (u1 (fun _ => 0) 0 1) 1 1
def n_mc (n i j : Nat) (E : Nat → ck_E) : Nat → ck_E := u1 (u1 (n_ar n E 33) (n + 4) (.inr (0, 16, .inl (n_on i)))) (n + 25) (.inr (0, 2, .inl (n_le j)))
def n_model (k n : Nat) (v0 v1 v2 v3 v4 : Int32) (E : Nat → ck_E) : Nat → ck_E := u1 (n_mc n 16 2 E) k (.inl (8, n_mv n v0 v1 v2 v3 v4))
def zX8_init : ck_F := fun avs σ => match avs with
  | [.inr (some (0, k)), .inl a0, .inl a1, .inl a2, .inl a3, .inl a4] => (k < σ.2 ∧ σ.1 k = .inl (8, ck_dv 8) ∧ ¬ 2 * wit8 a0 1 8 = 0, none, (n_model k σ.2 (wit8 a0 1 8) (wit8 a1 1 16) (wit8 a2 1 15) (wit8 a3 4 400) (wit8 a4 1 20) σ.1, σ.2 + 33))
  | _ => (False, none, σ)
theorem zX8_init_of {avs : List sw_V} {σ : ck_2} (h : (zX8_init avs σ).1) : ∃ k a0 a1 a2 a3 a4, avs = [.inr (some (0, k)), .inl a0, .inl a1, .inl a2, .inl a3, .inl a4] := by
  unfold zX8_init at h
  split at h
  · exact ⟨_, _, _, _, _, _, rfl⟩
  · exact h.elim
theorem zX8_init_ob {avs : List sw_V} {σ : ck_2} (h : (zX8_init avs σ).1) : ∃ k tl, avs = .inr (some (0, k)) :: tl := by
  obtain ⟨k, _, _, _, _, _, rfl⟩ := zX8_init_of h
  exact ⟨k, _, rfl⟩
def jcX8_init : gs_C ck_S := [(2, 1, 1, ck_obj), (4, 0, 1, ck_newa 33 27235 0), (7, 7, 2, ck_put 8 6), (12, 0, 1, ck_newa 33 27235 1), (7, 13, 2, ck_put 8 7), (7, 17, 2, ck_put 8 8), (7, 20, 2, ck_put 8 9), (7, 23, 2, ck_put 8 10), (7, 26, 2, ck_put 8 11), (7, 29, 2, ck_put 8 12), (7, 32, 2, ck_put 8 13), (7, 35, 2, ck_put 8 14), (7, 38, 2, ck_put 8 15), (7, 41, 2, ck_put 8 16), (7, 44, 2, ck_put 8 17), (7, 47, 2, ck_put 8 18), (7, 50, 2, ck_put 8 19), (7, 53, 2, ck_put 8 20), (7, 56, 2, ck_put 8 21), (7, 59, 2, ck_put 8 22), (7, 62, 2, ck_put 8 23), (7, 65, 2, ck_put 8 24), (7, 68, 2, ck_put 8 25), (7, 71, 2, ck_put 8 26), (7, 74, 2, ck_put 8 27), (7, 77, 2, ck_put 8 28), (7, 80, 2, ck_put 8 29), (7, 83, 2, ck_put 8 30), (7, 86, 2, ck_put 8 31), (7, 89, 2, ck_put 8 32), (7, 92, 2, ck_put 8 33), (7, 95, 2, ck_put 8 34), (7, 98, 2, ck_put 8 35), (7, 101, 2, ck_put 8 36), (7, 104, 2, ck_put 8 37), (7, 107, 2, ck_put 8 38), (1, 110, 3, ck_cf 33 27235 0 0 zX8_within), (7, 114, 2, ck_put 8 0), (7, 118, 2, ck_put 8 1), (7, 121, 2, ck_put 8 2), (7, 124, 2, ck_put 8 3), (7, 127, 2, ck_put 8 4), (6, 124, 1, ck_get 8 3), (6, 114, 1, ck_get 8 0), (7, 130, 2, ck_put 8 5), (6, 23, 1, ck_get 8 10), (9, 0, 3, ck_ist), (6, 86, 1, ck_get 8 31)]
abbrev jqX8_init (avs : List sw_V) (σ : ck_2) : Option sw_V → ck_S → Prop := fun r σ' => r = (zX8_init avs σ).2.1 ∧ σ'.1 = (zX8_init avs σ).2.2.1 ∧ σ'.2.1 = (zX8_init avs σ).2.2.2 ∧ σ'.2.2.1 ≤ 33 ∧ σ'.2.2.2 ≤ 27235 ∧ ((none : Option FieldType) = none ↔ r = none)
abbrev jwX8_init (avs : List sw_V) (σ : ck_2) (G : Nat → sw_L → List sw_V → ck_S → Prop) : Prop := ∀ stop k pc L st σ', gs_ws jcX8_init jsX8_init 392 jtX8_init (jqX8_init avs σ) G stop k pc L st σ' → G pc L st σ'
theorem n_on_s (i : Nat) : u1 (n_on i) i 1 = n_on (i + 1) := by
  funext j
  unfold u1 n_on
  by_cases hj : j = i
  · subst hj
    rw [if_pos rfl, if_pos (Nat.lt_succ_self j)]
  · rw [if_neg hj]
    by_cases hc : j < i
    · rw [if_pos hc, if_pos (show j < i + 1 by omega)]
    · rw [if_neg hc, if_neg (show ¬ j < i + 1 by omega)]
theorem n_mc_4 {n i j : Nat} {E : Nat → ck_E} : n_mc n i j E (n + 4) = .inr (0, 16, .inl (n_on i)) := by
  unfold n_mc
  rw [u1_n _ _ (by omega), u1_s]
theorem n_mc_25 {n i j : Nat} {E : Nat → ck_E} : n_mc n i j E (n + 25) = .inr (0, 2, .inl (n_le j)) := by
  unfold n_mc
  rw [u1_s]
theorem jX8_loop (k n : Nat) (f : Nat → sw_V) (E : Nat → ck_E) (G : Nat → sw_L → List sw_V → ck_S → Prop) (avs : List sw_V) (σ : ck_2) (hG : jwX8_init avs σ G) (hk : k < n) (hf : f 10 = rfv (n + 4)) (a0 a1 a2 a3 a4 : Int32) (c s : Nat)
    (hd : G 378 [some (rfv k), some (.inl a0), some (.inl a1), some (.inl a2), some (.inl a3), some (.inl a4), some (.inl (nI 16))] [] (u1 (n_mc n 16 0 E) k (.inl (8, f)), n + 33, c, s)) : ∀ (d i : Nat), i + d = 16 → G 357 [some (rfv k), some (.inl a0), some (.inl a1), some (.inl a2), some (.inl a3), some (.inl a4), some (.inl (nI i))] [] (u1 (n_mc n i 0 E) k (.inl (8, f)), n + 33, c, s) := by
  intro d
  induction d with
  | zero =>
    intro i hi
    have hi : i = 16 := by omega
    subst hi
    refine hG (fun pc => Nat.beq pc 378) 20 357 _ _ _ (And.intro (fun _ => hd) (fun (z : ¬ nI 16 ≤ nI 16) => absurd (Int32.le_refl _) z))
  | succ d ih =>
    intro i hi
    have hlt : ¬ nI 16 ≤ nI i := nI_ge (by omega) (by omega)
    obtain ⟨S, hS⟩ : ∃ S, S = u1 (n_mc n i 0 E) k (.inl (8, f)) := ⟨_, rfl⟩
    have eS : S (n + 4) = .inr (0, 16, .inl (n_on i)) := by rw [hS, u1_n _ _ (by omega), n_mc_4]
    have eSk : S k = .inl (8, f) := by rw [hS, u1_s]
    rw [← hS]
    refine hG (fun pc => Nat.beq pc 368) 20 357 _ _ _ (And.intro (fun (z : nI 16 ≤ nI i) => absurd z hlt) (fun _ => And.intro ⟨by show k < n + 33; omega, by show (ob (S k)).1 = 8; rw [eSk]; rfl⟩ ?_))
    show G 368 [some (rfv k), some (.inl a0), some (.inl a1), some (.inl a2), some (.inl a3), some (.inl a4), some (.inl (nI i))] [(ob (S k)).2 10] (S, n + 33, c, s)
    rw [eSk]
    show G 368 [some (rfv k), some (.inl a0), some (.inl a1), some (.inl a2), some (.inl a3), some (.inl a4), some (.inl (nI i))] [f 10] (S, n + 33, c, s)
    rw [hf]
    refine hG (fun pc => Nat.beq pc 357) 20 368 _ _ _ (And.intro ⟨by show n + 4 < n + 33; omega, ?_, ?_⟩ ?_)
    · show S (n + 4) = .inr (0, (ar (S (n + 4))).2, .inl (ri (S (n + 4))))
      rw [eS]
      rfl
    · show vp_in (nI i) (ar (S (n + 4))).2
      rw [eS]
      exact vp_in_nI (by show i < 16; omega) (by show 16 < 2 ^ 31; decide)
    · show G 357 [some (rfv k), some (.inl a0), some (.inl a1), some (.inl a2), some (.inl a3), some (.inl a4), some (.inl (nI i + 1))] [] (u1 S (n + 4) (.inr (0, (ar (S (n + 4))).2, .inl (u1 (ri (S (n + 4))) (nI i).toNatClampNeg 1))), n + 33, c, s)
      rw [eS, nI_1, nI_clamp (by omega)]
      have e : u1 S (n + 4) (.inr (0, 16, .inl (u1 (n_on i) i 1))) = u1 (n_mc n (i + 1) 0 E) k (.inl (8, f)) := by
        rw [n_on_s, hS, u1_cm _ _ _ (show ¬ k = n + 4 by omega)]
        unfold n_mc
        rw [u1_cm _ _ _ (show ¬ n + 25 = n + 4 by omega), u1_uu]
      show G 357 [some (rfv k), some (.inl a0), some (.inl a1), some (.inl a2), some (.inl a3), some (.inl a4), some (.inl (nI (i + 1)))] [] (u1 S (n + 4) (.inr (0, 16, .inl (u1 (n_on i) i 1))), n + 33, c, s)
      rw [e]
      exact ih (i + 1) (by omega)

theorem jX8_arr (k n : Nat) (a0 a1 a2 a3 a4 : Int32) (E : Nat → ck_E) (G : Nat → sw_L → List sw_V → ck_S → Prop) (avs : List sw_V) (σ : ck_2) (hG : jwX8_init avs σ G) (hk : k < n) (h2 : E k = .inl (8, ck_dv 8)) (hd : G 262 [some (rfv k), some (.inl a0), some (.inl a1), some (.inl a2), some (.inl a3), some (.inl a4), none] [] (u1 (n_ar n E 33) k (.inl (8, n_mf n (ck_dv 8) 33)), n + 33, 33, 27235)) : G 4 [some (rfv k), some (.inl a0), some (.inl a1), some (.inl a2), some (.inl a3), some (.inl a4), none] [] (E, n, 0, 0) := by
  have c2 : (2 : Int32).toNatClampNeg = 2 := by decide
  have c16 : (16 : Int32).toNatClampNeg = 16 := by decide
  have c19 : (19 : Int32).toNatClampNeg = 19 := by decide
  have c30 : (30 : Int32).toNatClampNeg = 30 := by decide
  have c40 : (40 : Int32).toNatClampNeg = 40 := by decide
  have c570 : (570 : Int32).toNatClampNeg = 570 := by decide
  have c760 : (760 : Int32).toNatClampNeg = 760 := by decide
  have c6400 : (6400 : Int32).toNatClampNeg = 6400 := by decide
  obtain ⟨A0, hA0⟩ : ∃ A0, A0 = E := ⟨_, rfl⟩
  obtain ⟨f0, hf0⟩ : ∃ f0, f0 = ck_dv 8 := ⟨_, rfl⟩
  have e0 : E = u1 A0 k (.inl (8, f0)) := by
    rw [hA0, hf0]
    funext x
    by_cases hx : x = k
    · rw [hx, u1_s, h2]
    · rw [u1_n _ _ hx]
  suffices h0 : G 4 [some (rfv k), some (.inl a0), some (.inl a1), some (.inl a2), some (.inl a3), some (.inl a4), none] [] (u1 A0 k (.inl (8, f0)), n, 0, 0) by
    rw [← e0] at h0
    exact h0
  refine hG (fun pc => Nat.beq pc 9) 10 4 _ _ _ (And.intro ⟨by decide, by rw [c16]; omega, (show 0 + 1 ≤ 33 by omega), (show 0 + (16 : Int32).toNatClampNeg ≤ 27235 by rw [c16]; omega)⟩ ?_)
  show G 9 [some (rfv k), some (.inl a0), some (.inl a1), some (.inl a2), some (.inl a3), some (.inl a4), none] [rfv (n), rfv k] (u1 (u1 A0 k (.inl (8, f0))) (n) (.inr (0, (16 : Int32).toNatClampNeg, .inl (fun _ => 0))), n + 1, 1, 0 + (16 : Int32).toNatClampNeg)
  rw [c16, u1_cm _ _ _ (show ¬ k = n by omega)]
  refine hG (fun pc => Nat.beq pc 12) 10 9 _ _ _ (And.intro ⟨by show k < n + 1; omega, by show (ob (u1 _ k _ k)).1 = 8; rw [u1_s]; rfl, _, rfl⟩ ?_)
  show G 12 [some (rfv k), some (.inl a0), some (.inl a1), some (.inl a2), some (.inl a3), some (.inl a4), none] [] (u1 (u1 (u1 A0 (n) (.inr (0, 16, .inl (fun _ => 0)))) k (.inl (8, f0))) k (.inl (8, u1 (ob (u1 (u1 A0 (n) (.inr (0, 16, .inl (fun _ => 0)))) k (.inl (8, f0)) k)).2 6 (rfv (n)))), n + 1, 1, 0 + 16)
  rw [u1_s, u1_uu]
  obtain ⟨A1, hA1⟩ : ∃ A1, A1 = u1 A0 (n) (.inr (0, 16, .inl (fun _ => 0))) := ⟨_, rfl⟩
  obtain ⟨f1, hf1⟩ : ∃ f1, f1 = u1 f0 6 (rfv (n)) := ⟨_, rfl⟩
  show G 12 [some (rfv k), some (.inl a0), some (.inl a1), some (.inl a2), some (.inl a3), some (.inl a4), none] [] (u1 (u1 A0 (n) (.inr (0, 16, .inl (fun _ => 0)))) k (.inl (8, u1 f0 6 (rfv (n)))), n + 1, 1, 0 + 16)
  rw [← hA1, ← hf1]
  show G 12 [some (rfv k), some (.inl a0), some (.inl a1), some (.inl a2), some (.inl a3), some (.inl a4), none] [] (u1 A1 k (.inl (8, f1)), n + 1, 1, 16)
  refine hG (fun pc => Nat.beq pc 17) 10 12 _ _ _ (And.intro ⟨by decide, by rw [c16]; omega, (show 1 + 1 ≤ 33 by omega), (show 16 + (16 : Int32).toNatClampNeg ≤ 27235 by rw [c16]; omega)⟩ ?_)
  show G 17 [some (rfv k), some (.inl a0), some (.inl a1), some (.inl a2), some (.inl a3), some (.inl a4), none] [rfv (n + 1), rfv k] (u1 (u1 A1 k (.inl (8, f1))) (n + 1) (.inr (1, (16 : Int32).toNatClampNeg, .inl (fun _ => 0))), n + 2, 2, 16 + (16 : Int32).toNatClampNeg)
  rw [c16, u1_cm _ _ _ (show ¬ k = n + 1 by omega)]
  refine hG (fun pc => Nat.beq pc 20) 10 17 _ _ _ (And.intro ⟨by show k < n + 2; omega, by show (ob (u1 _ k _ k)).1 = 8; rw [u1_s]; rfl, _, rfl⟩ ?_)
  show G 20 [some (rfv k), some (.inl a0), some (.inl a1), some (.inl a2), some (.inl a3), some (.inl a4), none] [] (u1 (u1 (u1 A1 (n + 1) (.inr (1, 16, .inl (fun _ => 0)))) k (.inl (8, f1))) k (.inl (8, u1 (ob (u1 (u1 A1 (n + 1) (.inr (1, 16, .inl (fun _ => 0)))) k (.inl (8, f1)) k)).2 7 (rfv (n + 1)))), n + 2, 2, 16 + 16)
  rw [u1_s, u1_uu]
  obtain ⟨A2, hA2⟩ : ∃ A2, A2 = u1 A1 (n + 1) (.inr (1, 16, .inl (fun _ => 0))) := ⟨_, rfl⟩
  obtain ⟨f2, hf2⟩ : ∃ f2, f2 = u1 f1 7 (rfv (n + 1)) := ⟨_, rfl⟩
  show G 20 [some (rfv k), some (.inl a0), some (.inl a1), some (.inl a2), some (.inl a3), some (.inl a4), none] [] (u1 (u1 A1 (n + 1) (.inr (1, 16, .inl (fun _ => 0)))) k (.inl (8, u1 f1 7 (rfv (n + 1)))), n + 2, 2, 16 + 16)
  rw [← hA2, ← hf2]
  show G 20 [some (rfv k), some (.inl a0), some (.inl a1), some (.inl a2), some (.inl a3), some (.inl a4), none] [] (u1 A2 k (.inl (8, f2)), n + 2, 2, 32)
  refine hG (fun pc => Nat.beq pc 25) 10 20 _ _ _ (And.intro ⟨by decide, by rw [c16]; omega, (show 2 + 1 ≤ 33 by omega), (show 32 + (16 : Int32).toNatClampNeg ≤ 27235 by rw [c16]; omega)⟩ ?_)
  show G 25 [some (rfv k), some (.inl a0), some (.inl a1), some (.inl a2), some (.inl a3), some (.inl a4), none] [rfv (n + 2), rfv k] (u1 (u1 A2 k (.inl (8, f2))) (n + 2) (.inr (0, (16 : Int32).toNatClampNeg, .inl (fun _ => 0))), n + 3, 3, 32 + (16 : Int32).toNatClampNeg)
  rw [c16, u1_cm _ _ _ (show ¬ k = n + 2 by omega)]
  refine hG (fun pc => Nat.beq pc 28) 10 25 _ _ _ (And.intro ⟨by show k < n + 3; omega, by show (ob (u1 _ k _ k)).1 = 8; rw [u1_s]; rfl, _, rfl⟩ ?_)
  show G 28 [some (rfv k), some (.inl a0), some (.inl a1), some (.inl a2), some (.inl a3), some (.inl a4), none] [] (u1 (u1 (u1 A2 (n + 2) (.inr (0, 16, .inl (fun _ => 0)))) k (.inl (8, f2))) k (.inl (8, u1 (ob (u1 (u1 A2 (n + 2) (.inr (0, 16, .inl (fun _ => 0)))) k (.inl (8, f2)) k)).2 8 (rfv (n + 2)))), n + 3, 3, 32 + 16)
  rw [u1_s, u1_uu]
  obtain ⟨A3, hA3⟩ : ∃ A3, A3 = u1 A2 (n + 2) (.inr (0, 16, .inl (fun _ => 0))) := ⟨_, rfl⟩
  obtain ⟨f3, hf3⟩ : ∃ f3, f3 = u1 f2 8 (rfv (n + 2)) := ⟨_, rfl⟩
  show G 28 [some (rfv k), some (.inl a0), some (.inl a1), some (.inl a2), some (.inl a3), some (.inl a4), none] [] (u1 (u1 A2 (n + 2) (.inr (0, 16, .inl (fun _ => 0)))) k (.inl (8, u1 f2 8 (rfv (n + 2)))), n + 3, 3, 32 + 16)
  rw [← hA3, ← hf3]
  show G 28 [some (rfv k), some (.inl a0), some (.inl a1), some (.inl a2), some (.inl a3), some (.inl a4), none] [] (u1 A3 k (.inl (8, f3)), n + 3, 3, 48)
  refine hG (fun pc => Nat.beq pc 33) 10 28 _ _ _ (And.intro ⟨by decide, by rw [c16]; omega, (show 3 + 1 ≤ 33 by omega), (show 48 + (16 : Int32).toNatClampNeg ≤ 27235 by rw [c16]; omega)⟩ ?_)
  show G 33 [some (rfv k), some (.inl a0), some (.inl a1), some (.inl a2), some (.inl a3), some (.inl a4), none] [rfv (n + 3), rfv k] (u1 (u1 A3 k (.inl (8, f3))) (n + 3) (.inr (0, (16 : Int32).toNatClampNeg, .inl (fun _ => 0))), n + 4, 4, 48 + (16 : Int32).toNatClampNeg)
  rw [c16, u1_cm _ _ _ (show ¬ k = n + 3 by omega)]
  refine hG (fun pc => Nat.beq pc 36) 10 33 _ _ _ (And.intro ⟨by show k < n + 4; omega, by show (ob (u1 _ k _ k)).1 = 8; rw [u1_s]; rfl, _, rfl⟩ ?_)
  show G 36 [some (rfv k), some (.inl a0), some (.inl a1), some (.inl a2), some (.inl a3), some (.inl a4), none] [] (u1 (u1 (u1 A3 (n + 3) (.inr (0, 16, .inl (fun _ => 0)))) k (.inl (8, f3))) k (.inl (8, u1 (ob (u1 (u1 A3 (n + 3) (.inr (0, 16, .inl (fun _ => 0)))) k (.inl (8, f3)) k)).2 9 (rfv (n + 3)))), n + 4, 4, 48 + 16)
  rw [u1_s, u1_uu]
  obtain ⟨A4, hA4⟩ : ∃ A4, A4 = u1 A3 (n + 3) (.inr (0, 16, .inl (fun _ => 0))) := ⟨_, rfl⟩
  obtain ⟨f4, hf4⟩ : ∃ f4, f4 = u1 f3 9 (rfv (n + 3)) := ⟨_, rfl⟩
  show G 36 [some (rfv k), some (.inl a0), some (.inl a1), some (.inl a2), some (.inl a3), some (.inl a4), none] [] (u1 (u1 A3 (n + 3) (.inr (0, 16, .inl (fun _ => 0)))) k (.inl (8, u1 f3 9 (rfv (n + 3)))), n + 4, 4, 48 + 16)
  rw [← hA4, ← hf4]
  show G 36 [some (rfv k), some (.inl a0), some (.inl a1), some (.inl a2), some (.inl a3), some (.inl a4), none] [] (u1 A4 k (.inl (8, f4)), n + 4, 4, 64)
  refine hG (fun pc => Nat.beq pc 41) 10 36 _ _ _ (And.intro ⟨by decide, by rw [c16]; omega, (show 4 + 1 ≤ 33 by omega), (show 64 + (16 : Int32).toNatClampNeg ≤ 27235 by rw [c16]; omega)⟩ ?_)
  show G 41 [some (rfv k), some (.inl a0), some (.inl a1), some (.inl a2), some (.inl a3), some (.inl a4), none] [rfv (n + 4), rfv k] (u1 (u1 A4 k (.inl (8, f4))) (n + 4) (.inr (0, (16 : Int32).toNatClampNeg, .inl (fun _ => 0))), n + 5, 5, 64 + (16 : Int32).toNatClampNeg)
  rw [c16, u1_cm _ _ _ (show ¬ k = n + 4 by omega)]
  refine hG (fun pc => Nat.beq pc 44) 10 41 _ _ _ (And.intro ⟨by show k < n + 5; omega, by show (ob (u1 _ k _ k)).1 = 8; rw [u1_s]; rfl, _, rfl⟩ ?_)
  show G 44 [some (rfv k), some (.inl a0), some (.inl a1), some (.inl a2), some (.inl a3), some (.inl a4), none] [] (u1 (u1 (u1 A4 (n + 4) (.inr (0, 16, .inl (fun _ => 0)))) k (.inl (8, f4))) k (.inl (8, u1 (ob (u1 (u1 A4 (n + 4) (.inr (0, 16, .inl (fun _ => 0)))) k (.inl (8, f4)) k)).2 10 (rfv (n + 4)))), n + 5, 5, 64 + 16)
  rw [u1_s, u1_uu]
  obtain ⟨A5, hA5⟩ : ∃ A5, A5 = u1 A4 (n + 4) (.inr (0, 16, .inl (fun _ => 0))) := ⟨_, rfl⟩
  obtain ⟨f5, hf5⟩ : ∃ f5, f5 = u1 f4 10 (rfv (n + 4)) := ⟨_, rfl⟩
  show G 44 [some (rfv k), some (.inl a0), some (.inl a1), some (.inl a2), some (.inl a3), some (.inl a4), none] [] (u1 (u1 A4 (n + 4) (.inr (0, 16, .inl (fun _ => 0)))) k (.inl (8, u1 f4 10 (rfv (n + 4)))), n + 5, 5, 64 + 16)
  rw [← hA5, ← hf5]
  show G 44 [some (rfv k), some (.inl a0), some (.inl a1), some (.inl a2), some (.inl a3), some (.inl a4), none] [] (u1 A5 k (.inl (8, f5)), n + 5, 5, 80)
  refine hG (fun pc => Nat.beq pc 49) 10 44 _ _ _ (And.intro ⟨by decide, by rw [c16]; omega, (show 5 + 1 ≤ 33 by omega), (show 80 + (16 : Int32).toNatClampNeg ≤ 27235 by rw [c16]; omega)⟩ ?_)
  show G 49 [some (rfv k), some (.inl a0), some (.inl a1), some (.inl a2), some (.inl a3), some (.inl a4), none] [rfv (n + 5), rfv k] (u1 (u1 A5 k (.inl (8, f5))) (n + 5) (.inr (1, (16 : Int32).toNatClampNeg, .inl (fun _ => 0))), n + 6, 6, 80 + (16 : Int32).toNatClampNeg)
  rw [c16, u1_cm _ _ _ (show ¬ k = n + 5 by omega)]
  refine hG (fun pc => Nat.beq pc 52) 10 49 _ _ _ (And.intro ⟨by show k < n + 6; omega, by show (ob (u1 _ k _ k)).1 = 8; rw [u1_s]; rfl, _, rfl⟩ ?_)
  show G 52 [some (rfv k), some (.inl a0), some (.inl a1), some (.inl a2), some (.inl a3), some (.inl a4), none] [] (u1 (u1 (u1 A5 (n + 5) (.inr (1, 16, .inl (fun _ => 0)))) k (.inl (8, f5))) k (.inl (8, u1 (ob (u1 (u1 A5 (n + 5) (.inr (1, 16, .inl (fun _ => 0)))) k (.inl (8, f5)) k)).2 11 (rfv (n + 5)))), n + 6, 6, 80 + 16)
  rw [u1_s, u1_uu]
  obtain ⟨A6, hA6⟩ : ∃ A6, A6 = u1 A5 (n + 5) (.inr (1, 16, .inl (fun _ => 0))) := ⟨_, rfl⟩
  obtain ⟨f6, hf6⟩ : ∃ f6, f6 = u1 f5 11 (rfv (n + 5)) := ⟨_, rfl⟩
  show G 52 [some (rfv k), some (.inl a0), some (.inl a1), some (.inl a2), some (.inl a3), some (.inl a4), none] [] (u1 (u1 A5 (n + 5) (.inr (1, 16, .inl (fun _ => 0)))) k (.inl (8, u1 f5 11 (rfv (n + 5)))), n + 6, 6, 80 + 16)
  rw [← hA6, ← hf6]
  show G 52 [some (rfv k), some (.inl a0), some (.inl a1), some (.inl a2), some (.inl a3), some (.inl a4), none] [] (u1 A6 k (.inl (8, f6)), n + 6, 6, 96)
  refine hG (fun pc => Nat.beq pc 57) 10 52 _ _ _ (And.intro ⟨by decide, by rw [c16]; omega, (show 6 + 1 ≤ 33 by omega), (show 96 + (16 : Int32).toNatClampNeg ≤ 27235 by rw [c16]; omega)⟩ ?_)
  show G 57 [some (rfv k), some (.inl a0), some (.inl a1), some (.inl a2), some (.inl a3), some (.inl a4), none] [rfv (n + 6), rfv k] (u1 (u1 A6 k (.inl (8, f6))) (n + 6) (.inr (1, (16 : Int32).toNatClampNeg, .inl (fun _ => 0))), n + 7, 7, 96 + (16 : Int32).toNatClampNeg)
  rw [c16, u1_cm _ _ _ (show ¬ k = n + 6 by omega)]
  refine hG (fun pc => Nat.beq pc 60) 10 57 _ _ _ (And.intro ⟨by show k < n + 7; omega, by show (ob (u1 _ k _ k)).1 = 8; rw [u1_s]; rfl, _, rfl⟩ ?_)
  show G 60 [some (rfv k), some (.inl a0), some (.inl a1), some (.inl a2), some (.inl a3), some (.inl a4), none] [] (u1 (u1 (u1 A6 (n + 6) (.inr (1, 16, .inl (fun _ => 0)))) k (.inl (8, f6))) k (.inl (8, u1 (ob (u1 (u1 A6 (n + 6) (.inr (1, 16, .inl (fun _ => 0)))) k (.inl (8, f6)) k)).2 12 (rfv (n + 6)))), n + 7, 7, 96 + 16)
  rw [u1_s, u1_uu]
  obtain ⟨A7, hA7⟩ : ∃ A7, A7 = u1 A6 (n + 6) (.inr (1, 16, .inl (fun _ => 0))) := ⟨_, rfl⟩
  obtain ⟨f7, hf7⟩ : ∃ f7, f7 = u1 f6 12 (rfv (n + 6)) := ⟨_, rfl⟩
  show G 60 [some (rfv k), some (.inl a0), some (.inl a1), some (.inl a2), some (.inl a3), some (.inl a4), none] [] (u1 (u1 A6 (n + 6) (.inr (1, 16, .inl (fun _ => 0)))) k (.inl (8, u1 f6 12 (rfv (n + 6)))), n + 7, 7, 96 + 16)
  rw [← hA7, ← hf7]
  show G 60 [some (rfv k), some (.inl a0), some (.inl a1), some (.inl a2), some (.inl a3), some (.inl a4), none] [] (u1 A7 k (.inl (8, f7)), n + 7, 7, 112)
  refine hG (fun pc => Nat.beq pc 65) 10 60 _ _ _ (And.intro ⟨by decide, by rw [c16]; omega, (show 7 + 1 ≤ 33 by omega), (show 112 + (16 : Int32).toNatClampNeg ≤ 27235 by rw [c16]; omega)⟩ ?_)
  show G 65 [some (rfv k), some (.inl a0), some (.inl a1), some (.inl a2), some (.inl a3), some (.inl a4), none] [rfv (n + 7), rfv k] (u1 (u1 A7 k (.inl (8, f7))) (n + 7) (.inr (1, (16 : Int32).toNatClampNeg, .inl (fun _ => 0))), n + 8, 8, 112 + (16 : Int32).toNatClampNeg)
  rw [c16, u1_cm _ _ _ (show ¬ k = n + 7 by omega)]
  refine hG (fun pc => Nat.beq pc 68) 10 65 _ _ _ (And.intro ⟨by show k < n + 8; omega, by show (ob (u1 _ k _ k)).1 = 8; rw [u1_s]; rfl, _, rfl⟩ ?_)
  show G 68 [some (rfv k), some (.inl a0), some (.inl a1), some (.inl a2), some (.inl a3), some (.inl a4), none] [] (u1 (u1 (u1 A7 (n + 7) (.inr (1, 16, .inl (fun _ => 0)))) k (.inl (8, f7))) k (.inl (8, u1 (ob (u1 (u1 A7 (n + 7) (.inr (1, 16, .inl (fun _ => 0)))) k (.inl (8, f7)) k)).2 13 (rfv (n + 7)))), n + 8, 8, 112 + 16)
  rw [u1_s, u1_uu]
  obtain ⟨A8, hA8⟩ : ∃ A8, A8 = u1 A7 (n + 7) (.inr (1, 16, .inl (fun _ => 0))) := ⟨_, rfl⟩
  obtain ⟨f8, hf8⟩ : ∃ f8, f8 = u1 f7 13 (rfv (n + 7)) := ⟨_, rfl⟩
  show G 68 [some (rfv k), some (.inl a0), some (.inl a1), some (.inl a2), some (.inl a3), some (.inl a4), none] [] (u1 (u1 A7 (n + 7) (.inr (1, 16, .inl (fun _ => 0)))) k (.inl (8, u1 f7 13 (rfv (n + 7)))), n + 8, 8, 112 + 16)
  rw [← hA8, ← hf8]
  show G 68 [some (rfv k), some (.inl a0), some (.inl a1), some (.inl a2), some (.inl a3), some (.inl a4), none] [] (u1 A8 k (.inl (8, f8)), n + 8, 8, 128)
  refine hG (fun pc => Nat.beq pc 73) 10 68 _ _ _ (And.intro ⟨by decide, by rw [c16]; omega, (show 8 + 1 ≤ 33 by omega), (show 128 + (16 : Int32).toNatClampNeg ≤ 27235 by rw [c16]; omega)⟩ ?_)
  show G 73 [some (rfv k), some (.inl a0), some (.inl a1), some (.inl a2), some (.inl a3), some (.inl a4), none] [rfv (n + 8), rfv k] (u1 (u1 A8 k (.inl (8, f8))) (n + 8) (.inr (0, (16 : Int32).toNatClampNeg, .inl (fun _ => 0))), n + 9, 9, 128 + (16 : Int32).toNatClampNeg)
  rw [c16, u1_cm _ _ _ (show ¬ k = n + 8 by omega)]
  refine hG (fun pc => Nat.beq pc 76) 10 73 _ _ _ (And.intro ⟨by show k < n + 9; omega, by show (ob (u1 _ k _ k)).1 = 8; rw [u1_s]; rfl, _, rfl⟩ ?_)
  show G 76 [some (rfv k), some (.inl a0), some (.inl a1), some (.inl a2), some (.inl a3), some (.inl a4), none] [] (u1 (u1 (u1 A8 (n + 8) (.inr (0, 16, .inl (fun _ => 0)))) k (.inl (8, f8))) k (.inl (8, u1 (ob (u1 (u1 A8 (n + 8) (.inr (0, 16, .inl (fun _ => 0)))) k (.inl (8, f8)) k)).2 14 (rfv (n + 8)))), n + 9, 9, 128 + 16)
  rw [u1_s, u1_uu]
  obtain ⟨A9, hA9⟩ : ∃ A9, A9 = u1 A8 (n + 8) (.inr (0, 16, .inl (fun _ => 0))) := ⟨_, rfl⟩
  obtain ⟨f9, hf9⟩ : ∃ f9, f9 = u1 f8 14 (rfv (n + 8)) := ⟨_, rfl⟩
  show G 76 [some (rfv k), some (.inl a0), some (.inl a1), some (.inl a2), some (.inl a3), some (.inl a4), none] [] (u1 (u1 A8 (n + 8) (.inr (0, 16, .inl (fun _ => 0)))) k (.inl (8, u1 f8 14 (rfv (n + 8)))), n + 9, 9, 128 + 16)
  rw [← hA9, ← hf9]
  show G 76 [some (rfv k), some (.inl a0), some (.inl a1), some (.inl a2), some (.inl a3), some (.inl a4), none] [] (u1 A9 k (.inl (8, f9)), n + 9, 9, 144)
  refine hG (fun pc => Nat.beq pc 81) 10 76 _ _ _ (And.intro ⟨by decide, by rw [c16]; omega, (show 9 + 1 ≤ 33 by omega), (show 144 + (16 : Int32).toNatClampNeg ≤ 27235 by rw [c16]; omega)⟩ ?_)
  show G 81 [some (rfv k), some (.inl a0), some (.inl a1), some (.inl a2), some (.inl a3), some (.inl a4), none] [rfv (n + 9), rfv k] (u1 (u1 A9 k (.inl (8, f9))) (n + 9) (.inr (0, (16 : Int32).toNatClampNeg, .inl (fun _ => 0))), n + 10, 10, 144 + (16 : Int32).toNatClampNeg)
  rw [c16, u1_cm _ _ _ (show ¬ k = n + 9 by omega)]
  refine hG (fun pc => Nat.beq pc 84) 10 81 _ _ _ (And.intro ⟨by show k < n + 10; omega, by show (ob (u1 _ k _ k)).1 = 8; rw [u1_s]; rfl, _, rfl⟩ ?_)
  show G 84 [some (rfv k), some (.inl a0), some (.inl a1), some (.inl a2), some (.inl a3), some (.inl a4), none] [] (u1 (u1 (u1 A9 (n + 9) (.inr (0, 16, .inl (fun _ => 0)))) k (.inl (8, f9))) k (.inl (8, u1 (ob (u1 (u1 A9 (n + 9) (.inr (0, 16, .inl (fun _ => 0)))) k (.inl (8, f9)) k)).2 15 (rfv (n + 9)))), n + 10, 10, 144 + 16)
  rw [u1_s, u1_uu]
  obtain ⟨A10, hA10⟩ : ∃ A10, A10 = u1 A9 (n + 9) (.inr (0, 16, .inl (fun _ => 0))) := ⟨_, rfl⟩
  obtain ⟨f10, hf10⟩ : ∃ f10, f10 = u1 f9 15 (rfv (n + 9)) := ⟨_, rfl⟩
  show G 84 [some (rfv k), some (.inl a0), some (.inl a1), some (.inl a2), some (.inl a3), some (.inl a4), none] [] (u1 (u1 A9 (n + 9) (.inr (0, 16, .inl (fun _ => 0)))) k (.inl (8, u1 f9 15 (rfv (n + 9)))), n + 10, 10, 144 + 16)
  rw [← hA10, ← hf10]
  show G 84 [some (rfv k), some (.inl a0), some (.inl a1), some (.inl a2), some (.inl a3), some (.inl a4), none] [] (u1 A10 k (.inl (8, f10)), n + 10, 10, 160)
  refine hG (fun pc => Nat.beq pc 89) 10 84 _ _ _ (And.intro ⟨by decide, by rw [c16]; omega, (show 10 + 1 ≤ 33 by omega), (show 160 + (16 : Int32).toNatClampNeg ≤ 27235 by rw [c16]; omega)⟩ ?_)
  show G 89 [some (rfv k), some (.inl a0), some (.inl a1), some (.inl a2), some (.inl a3), some (.inl a4), none] [rfv (n + 10), rfv k] (u1 (u1 A10 k (.inl (8, f10))) (n + 10) (.inr (0, (16 : Int32).toNatClampNeg, .inl (fun _ => 0))), n + 11, 11, 160 + (16 : Int32).toNatClampNeg)
  rw [c16, u1_cm _ _ _ (show ¬ k = n + 10 by omega)]
  refine hG (fun pc => Nat.beq pc 92) 10 89 _ _ _ (And.intro ⟨by show k < n + 11; omega, by show (ob (u1 _ k _ k)).1 = 8; rw [u1_s]; rfl, _, rfl⟩ ?_)
  show G 92 [some (rfv k), some (.inl a0), some (.inl a1), some (.inl a2), some (.inl a3), some (.inl a4), none] [] (u1 (u1 (u1 A10 (n + 10) (.inr (0, 16, .inl (fun _ => 0)))) k (.inl (8, f10))) k (.inl (8, u1 (ob (u1 (u1 A10 (n + 10) (.inr (0, 16, .inl (fun _ => 0)))) k (.inl (8, f10)) k)).2 16 (rfv (n + 10)))), n + 11, 11, 160 + 16)
  rw [u1_s, u1_uu]
  obtain ⟨A11, hA11⟩ : ∃ A11, A11 = u1 A10 (n + 10) (.inr (0, 16, .inl (fun _ => 0))) := ⟨_, rfl⟩
  obtain ⟨f11, hf11⟩ : ∃ f11, f11 = u1 f10 16 (rfv (n + 10)) := ⟨_, rfl⟩
  show G 92 [some (rfv k), some (.inl a0), some (.inl a1), some (.inl a2), some (.inl a3), some (.inl a4), none] [] (u1 (u1 A10 (n + 10) (.inr (0, 16, .inl (fun _ => 0)))) k (.inl (8, u1 f10 16 (rfv (n + 10)))), n + 11, 11, 160 + 16)
  rw [← hA11, ← hf11]
  show G 92 [some (rfv k), some (.inl a0), some (.inl a1), some (.inl a2), some (.inl a3), some (.inl a4), none] [] (u1 A11 k (.inl (8, f11)), n + 11, 11, 176)
  refine hG (fun pc => Nat.beq pc 98) 10 92 _ _ _ (And.intro ⟨by decide, by rw [c6400]; omega, (show 11 + 1 ≤ 33 by omega), (show 176 + (6400 : Int32).toNatClampNeg ≤ 27235 by rw [c6400]; omega)⟩ ?_)
  show G 98 [some (rfv k), some (.inl a0), some (.inl a1), some (.inl a2), some (.inl a3), some (.inl a4), none] [rfv (n + 11), rfv k] (u1 (u1 A11 k (.inl (8, f11))) (n + 11) (.inr (0, (6400 : Int32).toNatClampNeg, .inl (fun _ => 0))), n + 12, 12, 176 + (6400 : Int32).toNatClampNeg)
  rw [c6400, u1_cm _ _ _ (show ¬ k = n + 11 by omega)]
  refine hG (fun pc => Nat.beq pc 101) 10 98 _ _ _ (And.intro ⟨by show k < n + 12; omega, by show (ob (u1 _ k _ k)).1 = 8; rw [u1_s]; rfl, _, rfl⟩ ?_)
  show G 101 [some (rfv k), some (.inl a0), some (.inl a1), some (.inl a2), some (.inl a3), some (.inl a4), none] [] (u1 (u1 (u1 A11 (n + 11) (.inr (0, 6400, .inl (fun _ => 0)))) k (.inl (8, f11))) k (.inl (8, u1 (ob (u1 (u1 A11 (n + 11) (.inr (0, 6400, .inl (fun _ => 0)))) k (.inl (8, f11)) k)).2 17 (rfv (n + 11)))), n + 12, 12, 176 + 6400)
  rw [u1_s, u1_uu]
  obtain ⟨A12, hA12⟩ : ∃ A12, A12 = u1 A11 (n + 11) (.inr (0, 6400, .inl (fun _ => 0))) := ⟨_, rfl⟩
  obtain ⟨f12, hf12⟩ : ∃ f12, f12 = u1 f11 17 (rfv (n + 11)) := ⟨_, rfl⟩
  show G 101 [some (rfv k), some (.inl a0), some (.inl a1), some (.inl a2), some (.inl a3), some (.inl a4), none] [] (u1 (u1 A11 (n + 11) (.inr (0, 6400, .inl (fun _ => 0)))) k (.inl (8, u1 f11 17 (rfv (n + 11)))), n + 12, 12, 176 + 6400)
  rw [← hA12, ← hf12]
  show G 101 [some (rfv k), some (.inl a0), some (.inl a1), some (.inl a2), some (.inl a3), some (.inl a4), none] [] (u1 A12 k (.inl (8, f12)), n + 12, 12, 6576)
  refine hG (fun pc => Nat.beq pc 107) 10 101 _ _ _ (And.intro ⟨by decide, by rw [c6400]; omega, (show 12 + 1 ≤ 33 by omega), (show 6576 + (6400 : Int32).toNatClampNeg ≤ 27235 by rw [c6400]; omega)⟩ ?_)
  show G 107 [some (rfv k), some (.inl a0), some (.inl a1), some (.inl a2), some (.inl a3), some (.inl a4), none] [rfv (n + 12), rfv k] (u1 (u1 A12 k (.inl (8, f12))) (n + 12) (.inr (1, (6400 : Int32).toNatClampNeg, .inl (fun _ => 0))), n + 13, 13, 6576 + (6400 : Int32).toNatClampNeg)
  rw [c6400, u1_cm _ _ _ (show ¬ k = n + 12 by omega)]
  refine hG (fun pc => Nat.beq pc 110) 10 107 _ _ _ (And.intro ⟨by show k < n + 13; omega, by show (ob (u1 _ k _ k)).1 = 8; rw [u1_s]; rfl, _, rfl⟩ ?_)
  show G 110 [some (rfv k), some (.inl a0), some (.inl a1), some (.inl a2), some (.inl a3), some (.inl a4), none] [] (u1 (u1 (u1 A12 (n + 12) (.inr (1, 6400, .inl (fun _ => 0)))) k (.inl (8, f12))) k (.inl (8, u1 (ob (u1 (u1 A12 (n + 12) (.inr (1, 6400, .inl (fun _ => 0)))) k (.inl (8, f12)) k)).2 18 (rfv (n + 12)))), n + 13, 13, 6576 + 6400)
  rw [u1_s, u1_uu]
  obtain ⟨A13, hA13⟩ : ∃ A13, A13 = u1 A12 (n + 12) (.inr (1, 6400, .inl (fun _ => 0))) := ⟨_, rfl⟩
  obtain ⟨f13, hf13⟩ : ∃ f13, f13 = u1 f12 18 (rfv (n + 12)) := ⟨_, rfl⟩
  show G 110 [some (rfv k), some (.inl a0), some (.inl a1), some (.inl a2), some (.inl a3), some (.inl a4), none] [] (u1 (u1 A12 (n + 12) (.inr (1, 6400, .inl (fun _ => 0)))) k (.inl (8, u1 f12 18 (rfv (n + 12)))), n + 13, 13, 6576 + 6400)
  rw [← hA13, ← hf13]
  show G 110 [some (rfv k), some (.inl a0), some (.inl a1), some (.inl a2), some (.inl a3), some (.inl a4), none] [] (u1 A13 k (.inl (8, f13)), n + 13, 13, 12976)
  refine hG (fun pc => Nat.beq pc 115) 10 110 _ _ _ (And.intro ⟨by decide, by rw [c16]; omega, (show 13 + 1 ≤ 33 by omega), (show 12976 + (16 : Int32).toNatClampNeg ≤ 27235 by rw [c16]; omega)⟩ ?_)
  show G 115 [some (rfv k), some (.inl a0), some (.inl a1), some (.inl a2), some (.inl a3), some (.inl a4), none] [rfv (n + 13), rfv k] (u1 (u1 A13 k (.inl (8, f13))) (n + 13) (.inr (0, (16 : Int32).toNatClampNeg, .inl (fun _ => 0))), n + 14, 14, 12976 + (16 : Int32).toNatClampNeg)
  rw [c16, u1_cm _ _ _ (show ¬ k = n + 13 by omega)]
  refine hG (fun pc => Nat.beq pc 118) 10 115 _ _ _ (And.intro ⟨by show k < n + 14; omega, by show (ob (u1 _ k _ k)).1 = 8; rw [u1_s]; rfl, _, rfl⟩ ?_)
  show G 118 [some (rfv k), some (.inl a0), some (.inl a1), some (.inl a2), some (.inl a3), some (.inl a4), none] [] (u1 (u1 (u1 A13 (n + 13) (.inr (0, 16, .inl (fun _ => 0)))) k (.inl (8, f13))) k (.inl (8, u1 (ob (u1 (u1 A13 (n + 13) (.inr (0, 16, .inl (fun _ => 0)))) k (.inl (8, f13)) k)).2 19 (rfv (n + 13)))), n + 14, 14, 12976 + 16)
  rw [u1_s, u1_uu]
  obtain ⟨A14, hA14⟩ : ∃ A14, A14 = u1 A13 (n + 13) (.inr (0, 16, .inl (fun _ => 0))) := ⟨_, rfl⟩
  obtain ⟨f14, hf14⟩ : ∃ f14, f14 = u1 f13 19 (rfv (n + 13)) := ⟨_, rfl⟩
  show G 118 [some (rfv k), some (.inl a0), some (.inl a1), some (.inl a2), some (.inl a3), some (.inl a4), none] [] (u1 (u1 A13 (n + 13) (.inr (0, 16, .inl (fun _ => 0)))) k (.inl (8, u1 f13 19 (rfv (n + 13)))), n + 14, 14, 12976 + 16)
  rw [← hA14, ← hf14]
  show G 118 [some (rfv k), some (.inl a0), some (.inl a1), some (.inl a2), some (.inl a3), some (.inl a4), none] [] (u1 A14 k (.inl (8, f14)), n + 14, 14, 12992)
  refine hG (fun pc => Nat.beq pc 124) 10 118 _ _ _ (And.intro ⟨by decide, by rw [c6400]; omega, (show 14 + 1 ≤ 33 by omega), (show 12992 + (6400 : Int32).toNatClampNeg ≤ 27235 by rw [c6400]; omega)⟩ ?_)
  show G 124 [some (rfv k), some (.inl a0), some (.inl a1), some (.inl a2), some (.inl a3), some (.inl a4), none] [rfv (n + 14), rfv k] (u1 (u1 A14 k (.inl (8, f14))) (n + 14) (.inr (0, (6400 : Int32).toNatClampNeg, .inl (fun _ => 0))), n + 15, 15, 12992 + (6400 : Int32).toNatClampNeg)
  rw [c6400, u1_cm _ _ _ (show ¬ k = n + 14 by omega)]
  refine hG (fun pc => Nat.beq pc 127) 10 124 _ _ _ (And.intro ⟨by show k < n + 15; omega, by show (ob (u1 _ k _ k)).1 = 8; rw [u1_s]; rfl, _, rfl⟩ ?_)
  show G 127 [some (rfv k), some (.inl a0), some (.inl a1), some (.inl a2), some (.inl a3), some (.inl a4), none] [] (u1 (u1 (u1 A14 (n + 14) (.inr (0, 6400, .inl (fun _ => 0)))) k (.inl (8, f14))) k (.inl (8, u1 (ob (u1 (u1 A14 (n + 14) (.inr (0, 6400, .inl (fun _ => 0)))) k (.inl (8, f14)) k)).2 20 (rfv (n + 14)))), n + 15, 15, 12992 + 6400)
  rw [u1_s, u1_uu]
  obtain ⟨A15, hA15⟩ : ∃ A15, A15 = u1 A14 (n + 14) (.inr (0, 6400, .inl (fun _ => 0))) := ⟨_, rfl⟩
  obtain ⟨f15, hf15⟩ : ∃ f15, f15 = u1 f14 20 (rfv (n + 14)) := ⟨_, rfl⟩
  show G 127 [some (rfv k), some (.inl a0), some (.inl a1), some (.inl a2), some (.inl a3), some (.inl a4), none] [] (u1 (u1 A14 (n + 14) (.inr (0, 6400, .inl (fun _ => 0)))) k (.inl (8, u1 f14 20 (rfv (n + 14)))), n + 15, 15, 12992 + 6400)
  rw [← hA15, ← hf15]
  show G 127 [some (rfv k), some (.inl a0), some (.inl a1), some (.inl a2), some (.inl a3), some (.inl a4), none] [] (u1 A15 k (.inl (8, f15)), n + 15, 15, 19392)
  refine hG (fun pc => Nat.beq pc 133) 10 127 _ _ _ (And.intro ⟨by decide, by rw [c6400]; omega, (show 15 + 1 ≤ 33 by omega), (show 19392 + (6400 : Int32).toNatClampNeg ≤ 27235 by rw [c6400]; omega)⟩ ?_)
  show G 133 [some (rfv k), some (.inl a0), some (.inl a1), some (.inl a2), some (.inl a3), some (.inl a4), none] [rfv (n + 15), rfv k] (u1 (u1 A15 k (.inl (8, f15))) (n + 15) (.inr (1, (6400 : Int32).toNatClampNeg, .inl (fun _ => 0))), n + 16, 16, 19392 + (6400 : Int32).toNatClampNeg)
  rw [c6400, u1_cm _ _ _ (show ¬ k = n + 15 by omega)]
  refine hG (fun pc => Nat.beq pc 136) 10 133 _ _ _ (And.intro ⟨by show k < n + 16; omega, by show (ob (u1 _ k _ k)).1 = 8; rw [u1_s]; rfl, _, rfl⟩ ?_)
  show G 136 [some (rfv k), some (.inl a0), some (.inl a1), some (.inl a2), some (.inl a3), some (.inl a4), none] [] (u1 (u1 (u1 A15 (n + 15) (.inr (1, 6400, .inl (fun _ => 0)))) k (.inl (8, f15))) k (.inl (8, u1 (ob (u1 (u1 A15 (n + 15) (.inr (1, 6400, .inl (fun _ => 0)))) k (.inl (8, f15)) k)).2 21 (rfv (n + 15)))), n + 16, 16, 19392 + 6400)
  rw [u1_s, u1_uu]
  obtain ⟨A16, hA16⟩ : ∃ A16, A16 = u1 A15 (n + 15) (.inr (1, 6400, .inl (fun _ => 0))) := ⟨_, rfl⟩
  obtain ⟨f16, hf16⟩ : ∃ f16, f16 = u1 f15 21 (rfv (n + 15)) := ⟨_, rfl⟩
  show G 136 [some (rfv k), some (.inl a0), some (.inl a1), some (.inl a2), some (.inl a3), some (.inl a4), none] [] (u1 (u1 A15 (n + 15) (.inr (1, 6400, .inl (fun _ => 0)))) k (.inl (8, u1 f15 21 (rfv (n + 15)))), n + 16, 16, 19392 + 6400)
  rw [← hA16, ← hf16]
  show G 136 [some (rfv k), some (.inl a0), some (.inl a1), some (.inl a2), some (.inl a3), some (.inl a4), none] [] (u1 A16 k (.inl (8, f16)), n + 16, 16, 25792)
  refine hG (fun pc => Nat.beq pc 140) 10 136 _ _ _ (And.intro ⟨by decide, by rw [c2]; omega, (show 16 + 1 ≤ 33 by omega), (show 25792 + (2 : Int32).toNatClampNeg ≤ 27235 by rw [c2]; omega)⟩ ?_)
  show G 140 [some (rfv k), some (.inl a0), some (.inl a1), some (.inl a2), some (.inl a3), some (.inl a4), none] [rfv (n + 16), rfv k] (u1 (u1 A16 k (.inl (8, f16))) (n + 16) (.inr (0, (2 : Int32).toNatClampNeg, .inl (fun _ => 0))), n + 17, 17, 25792 + (2 : Int32).toNatClampNeg)
  rw [c2, u1_cm _ _ _ (show ¬ k = n + 16 by omega)]
  refine hG (fun pc => Nat.beq pc 143) 10 140 _ _ _ (And.intro ⟨by show k < n + 17; omega, by show (ob (u1 _ k _ k)).1 = 8; rw [u1_s]; rfl, _, rfl⟩ ?_)
  show G 143 [some (rfv k), some (.inl a0), some (.inl a1), some (.inl a2), some (.inl a3), some (.inl a4), none] [] (u1 (u1 (u1 A16 (n + 16) (.inr (0, 2, .inl (fun _ => 0)))) k (.inl (8, f16))) k (.inl (8, u1 (ob (u1 (u1 A16 (n + 16) (.inr (0, 2, .inl (fun _ => 0)))) k (.inl (8, f16)) k)).2 22 (rfv (n + 16)))), n + 17, 17, 25792 + 2)
  rw [u1_s, u1_uu]
  obtain ⟨A17, hA17⟩ : ∃ A17, A17 = u1 A16 (n + 16) (.inr (0, 2, .inl (fun _ => 0))) := ⟨_, rfl⟩
  obtain ⟨f17, hf17⟩ : ∃ f17, f17 = u1 f16 22 (rfv (n + 16)) := ⟨_, rfl⟩
  show G 143 [some (rfv k), some (.inl a0), some (.inl a1), some (.inl a2), some (.inl a3), some (.inl a4), none] [] (u1 (u1 A16 (n + 16) (.inr (0, 2, .inl (fun _ => 0)))) k (.inl (8, u1 f16 22 (rfv (n + 16)))), n + 17, 17, 25792 + 2)
  rw [← hA17, ← hf17]
  show G 143 [some (rfv k), some (.inl a0), some (.inl a1), some (.inl a2), some (.inl a3), some (.inl a4), none] [] (u1 A17 k (.inl (8, f17)), n + 17, 17, 25794)
  refine hG (fun pc => Nat.beq pc 148) 10 143 _ _ _ (And.intro ⟨by decide, by rw [c30]; omega, (show 17 + 1 ≤ 33 by omega), (show 25794 + (30 : Int32).toNatClampNeg ≤ 27235 by rw [c30]; omega)⟩ ?_)
  show G 148 [some (rfv k), some (.inl a0), some (.inl a1), some (.inl a2), some (.inl a3), some (.inl a4), none] [rfv (n + 17), rfv k] (u1 (u1 A17 k (.inl (8, f17))) (n + 17) (.inr (0, (30 : Int32).toNatClampNeg, .inl (fun _ => 0))), n + 18, 18, 25794 + (30 : Int32).toNatClampNeg)
  rw [c30, u1_cm _ _ _ (show ¬ k = n + 17 by omega)]
  refine hG (fun pc => Nat.beq pc 151) 10 148 _ _ _ (And.intro ⟨by show k < n + 18; omega, by show (ob (u1 _ k _ k)).1 = 8; rw [u1_s]; rfl, _, rfl⟩ ?_)
  show G 151 [some (rfv k), some (.inl a0), some (.inl a1), some (.inl a2), some (.inl a3), some (.inl a4), none] [] (u1 (u1 (u1 A17 (n + 17) (.inr (0, 30, .inl (fun _ => 0)))) k (.inl (8, f17))) k (.inl (8, u1 (ob (u1 (u1 A17 (n + 17) (.inr (0, 30, .inl (fun _ => 0)))) k (.inl (8, f17)) k)).2 23 (rfv (n + 17)))), n + 18, 18, 25794 + 30)
  rw [u1_s, u1_uu]
  obtain ⟨A18, hA18⟩ : ∃ A18, A18 = u1 A17 (n + 17) (.inr (0, 30, .inl (fun _ => 0))) := ⟨_, rfl⟩
  obtain ⟨f18, hf18⟩ : ∃ f18, f18 = u1 f17 23 (rfv (n + 17)) := ⟨_, rfl⟩
  show G 151 [some (rfv k), some (.inl a0), some (.inl a1), some (.inl a2), some (.inl a3), some (.inl a4), none] [] (u1 (u1 A17 (n + 17) (.inr (0, 30, .inl (fun _ => 0)))) k (.inl (8, u1 f17 23 (rfv (n + 17)))), n + 18, 18, 25794 + 30)
  rw [← hA18, ← hf18]
  show G 151 [some (rfv k), some (.inl a0), some (.inl a1), some (.inl a2), some (.inl a3), some (.inl a4), none] [] (u1 A18 k (.inl (8, f18)), n + 18, 18, 25824)
  refine hG (fun pc => Nat.beq pc 157) 10 151 _ _ _ (And.intro ⟨by decide, by rw [c570]; omega, (show 18 + 1 ≤ 33 by omega), (show 25824 + (570 : Int32).toNatClampNeg ≤ 27235 by rw [c570]; omega)⟩ ?_)
  show G 157 [some (rfv k), some (.inl a0), some (.inl a1), some (.inl a2), some (.inl a3), some (.inl a4), none] [rfv (n + 18), rfv k] (u1 (u1 A18 k (.inl (8, f18))) (n + 18) (.inr (0, (570 : Int32).toNatClampNeg, .inl (fun _ => 0))), n + 19, 19, 25824 + (570 : Int32).toNatClampNeg)
  rw [c570, u1_cm _ _ _ (show ¬ k = n + 18 by omega)]
  refine hG (fun pc => Nat.beq pc 160) 10 157 _ _ _ (And.intro ⟨by show k < n + 19; omega, by show (ob (u1 _ k _ k)).1 = 8; rw [u1_s]; rfl, _, rfl⟩ ?_)
  show G 160 [some (rfv k), some (.inl a0), some (.inl a1), some (.inl a2), some (.inl a3), some (.inl a4), none] [] (u1 (u1 (u1 A18 (n + 18) (.inr (0, 570, .inl (fun _ => 0)))) k (.inl (8, f18))) k (.inl (8, u1 (ob (u1 (u1 A18 (n + 18) (.inr (0, 570, .inl (fun _ => 0)))) k (.inl (8, f18)) k)).2 24 (rfv (n + 18)))), n + 19, 19, 25824 + 570)
  rw [u1_s, u1_uu]
  obtain ⟨A19, hA19⟩ : ∃ A19, A19 = u1 A18 (n + 18) (.inr (0, 570, .inl (fun _ => 0))) := ⟨_, rfl⟩
  obtain ⟨f19, hf19⟩ : ∃ f19, f19 = u1 f18 24 (rfv (n + 18)) := ⟨_, rfl⟩
  show G 160 [some (rfv k), some (.inl a0), some (.inl a1), some (.inl a2), some (.inl a3), some (.inl a4), none] [] (u1 (u1 A18 (n + 18) (.inr (0, 570, .inl (fun _ => 0)))) k (.inl (8, u1 f18 24 (rfv (n + 18)))), n + 19, 19, 25824 + 570)
  rw [← hA19, ← hf19]
  show G 160 [some (rfv k), some (.inl a0), some (.inl a1), some (.inl a2), some (.inl a3), some (.inl a4), none] [] (u1 A19 k (.inl (8, f19)), n + 19, 19, 26394)
  refine hG (fun pc => Nat.beq pc 164) 10 160 _ _ _ (And.intro ⟨by decide, by rw [c2]; omega, (show 19 + 1 ≤ 33 by omega), (show 26394 + (2 : Int32).toNatClampNeg ≤ 27235 by rw [c2]; omega)⟩ ?_)
  show G 164 [some (rfv k), some (.inl a0), some (.inl a1), some (.inl a2), some (.inl a3), some (.inl a4), none] [rfv (n + 19), rfv k] (u1 (u1 A19 k (.inl (8, f19))) (n + 19) (.inr (0, (2 : Int32).toNatClampNeg, .inl (fun _ => 0))), n + 20, 20, 26394 + (2 : Int32).toNatClampNeg)
  rw [c2, u1_cm _ _ _ (show ¬ k = n + 19 by omega)]
  refine hG (fun pc => Nat.beq pc 167) 10 164 _ _ _ (And.intro ⟨by show k < n + 20; omega, by show (ob (u1 _ k _ k)).1 = 8; rw [u1_s]; rfl, _, rfl⟩ ?_)
  show G 167 [some (rfv k), some (.inl a0), some (.inl a1), some (.inl a2), some (.inl a3), some (.inl a4), none] [] (u1 (u1 (u1 A19 (n + 19) (.inr (0, 2, .inl (fun _ => 0)))) k (.inl (8, f19))) k (.inl (8, u1 (ob (u1 (u1 A19 (n + 19) (.inr (0, 2, .inl (fun _ => 0)))) k (.inl (8, f19)) k)).2 25 (rfv (n + 19)))), n + 20, 20, 26394 + 2)
  rw [u1_s, u1_uu]
  obtain ⟨A20, hA20⟩ : ∃ A20, A20 = u1 A19 (n + 19) (.inr (0, 2, .inl (fun _ => 0))) := ⟨_, rfl⟩
  obtain ⟨f20, hf20⟩ : ∃ f20, f20 = u1 f19 25 (rfv (n + 19)) := ⟨_, rfl⟩
  show G 167 [some (rfv k), some (.inl a0), some (.inl a1), some (.inl a2), some (.inl a3), some (.inl a4), none] [] (u1 (u1 A19 (n + 19) (.inr (0, 2, .inl (fun _ => 0)))) k (.inl (8, u1 f19 25 (rfv (n + 19)))), n + 20, 20, 26394 + 2)
  rw [← hA20, ← hf20]
  show G 167 [some (rfv k), some (.inl a0), some (.inl a1), some (.inl a2), some (.inl a3), some (.inl a4), none] [] (u1 A20 k (.inl (8, f20)), n + 20, 20, 26396)
  refine hG (fun pc => Nat.beq pc 172) 10 167 _ _ _ (And.intro ⟨by decide, by rw [c40]; omega, (show 20 + 1 ≤ 33 by omega), (show 26396 + (40 : Int32).toNatClampNeg ≤ 27235 by rw [c40]; omega)⟩ ?_)
  show G 172 [some (rfv k), some (.inl a0), some (.inl a1), some (.inl a2), some (.inl a3), some (.inl a4), none] [rfv (n + 20), rfv k] (u1 (u1 A20 k (.inl (8, f20))) (n + 20) (.inr (0, (40 : Int32).toNatClampNeg, .inl (fun _ => 0))), n + 21, 21, 26396 + (40 : Int32).toNatClampNeg)
  rw [c40, u1_cm _ _ _ (show ¬ k = n + 20 by omega)]
  refine hG (fun pc => Nat.beq pc 175) 10 172 _ _ _ (And.intro ⟨by show k < n + 21; omega, by show (ob (u1 _ k _ k)).1 = 8; rw [u1_s]; rfl, _, rfl⟩ ?_)
  show G 175 [some (rfv k), some (.inl a0), some (.inl a1), some (.inl a2), some (.inl a3), some (.inl a4), none] [] (u1 (u1 (u1 A20 (n + 20) (.inr (0, 40, .inl (fun _ => 0)))) k (.inl (8, f20))) k (.inl (8, u1 (ob (u1 (u1 A20 (n + 20) (.inr (0, 40, .inl (fun _ => 0)))) k (.inl (8, f20)) k)).2 26 (rfv (n + 20)))), n + 21, 21, 26396 + 40)
  rw [u1_s, u1_uu]
  obtain ⟨A21, hA21⟩ : ∃ A21, A21 = u1 A20 (n + 20) (.inr (0, 40, .inl (fun _ => 0))) := ⟨_, rfl⟩
  obtain ⟨f21, hf21⟩ : ∃ f21, f21 = u1 f20 26 (rfv (n + 20)) := ⟨_, rfl⟩
  show G 175 [some (rfv k), some (.inl a0), some (.inl a1), some (.inl a2), some (.inl a3), some (.inl a4), none] [] (u1 (u1 A20 (n + 20) (.inr (0, 40, .inl (fun _ => 0)))) k (.inl (8, u1 f20 26 (rfv (n + 20)))), n + 21, 21, 26396 + 40)
  rw [← hA21, ← hf21]
  show G 175 [some (rfv k), some (.inl a0), some (.inl a1), some (.inl a2), some (.inl a3), some (.inl a4), none] [] (u1 A21 k (.inl (8, f21)), n + 21, 21, 26436)
  refine hG (fun pc => Nat.beq pc 181) 10 175 _ _ _ (And.intro ⟨by decide, by rw [c760]; omega, (show 21 + 1 ≤ 33 by omega), (show 26436 + (760 : Int32).toNatClampNeg ≤ 27235 by rw [c760]; omega)⟩ ?_)
  show G 181 [some (rfv k), some (.inl a0), some (.inl a1), some (.inl a2), some (.inl a3), some (.inl a4), none] [rfv (n + 21), rfv k] (u1 (u1 A21 k (.inl (8, f21))) (n + 21) (.inr (0, (760 : Int32).toNatClampNeg, .inl (fun _ => 0))), n + 22, 22, 26436 + (760 : Int32).toNatClampNeg)
  rw [c760, u1_cm _ _ _ (show ¬ k = n + 21 by omega)]
  refine hG (fun pc => Nat.beq pc 184) 10 181 _ _ _ (And.intro ⟨by show k < n + 22; omega, by show (ob (u1 _ k _ k)).1 = 8; rw [u1_s]; rfl, _, rfl⟩ ?_)
  show G 184 [some (rfv k), some (.inl a0), some (.inl a1), some (.inl a2), some (.inl a3), some (.inl a4), none] [] (u1 (u1 (u1 A21 (n + 21) (.inr (0, 760, .inl (fun _ => 0)))) k (.inl (8, f21))) k (.inl (8, u1 (ob (u1 (u1 A21 (n + 21) (.inr (0, 760, .inl (fun _ => 0)))) k (.inl (8, f21)) k)).2 27 (rfv (n + 21)))), n + 22, 22, 26436 + 760)
  rw [u1_s, u1_uu]
  obtain ⟨A22, hA22⟩ : ∃ A22, A22 = u1 A21 (n + 21) (.inr (0, 760, .inl (fun _ => 0))) := ⟨_, rfl⟩
  obtain ⟨f22, hf22⟩ : ∃ f22, f22 = u1 f21 27 (rfv (n + 21)) := ⟨_, rfl⟩
  show G 184 [some (rfv k), some (.inl a0), some (.inl a1), some (.inl a2), some (.inl a3), some (.inl a4), none] [] (u1 (u1 A21 (n + 21) (.inr (0, 760, .inl (fun _ => 0)))) k (.inl (8, u1 f21 27 (rfv (n + 21)))), n + 22, 22, 26436 + 760)
  rw [← hA22, ← hf22]
  show G 184 [some (rfv k), some (.inl a0), some (.inl a1), some (.inl a2), some (.inl a3), some (.inl a4), none] [] (u1 A22 k (.inl (8, f22)), n + 22, 22, 27196)
  refine hG (fun pc => Nat.beq pc 188) 10 184 _ _ _ (And.intro ⟨by decide, by rw [c2]; omega, (show 22 + 1 ≤ 33 by omega), (show 27196 + (2 : Int32).toNatClampNeg ≤ 27235 by rw [c2]; omega)⟩ ?_)
  show G 188 [some (rfv k), some (.inl a0), some (.inl a1), some (.inl a2), some (.inl a3), some (.inl a4), none] [rfv (n + 22), rfv k] (u1 (u1 A22 k (.inl (8, f22))) (n + 22) (.inr (0, (2 : Int32).toNatClampNeg, .inl (fun _ => 0))), n + 23, 23, 27196 + (2 : Int32).toNatClampNeg)
  rw [c2, u1_cm _ _ _ (show ¬ k = n + 22 by omega)]
  refine hG (fun pc => Nat.beq pc 191) 10 188 _ _ _ (And.intro ⟨by show k < n + 23; omega, by show (ob (u1 _ k _ k)).1 = 8; rw [u1_s]; rfl, _, rfl⟩ ?_)
  show G 191 [some (rfv k), some (.inl a0), some (.inl a1), some (.inl a2), some (.inl a3), some (.inl a4), none] [] (u1 (u1 (u1 A22 (n + 22) (.inr (0, 2, .inl (fun _ => 0)))) k (.inl (8, f22))) k (.inl (8, u1 (ob (u1 (u1 A22 (n + 22) (.inr (0, 2, .inl (fun _ => 0)))) k (.inl (8, f22)) k)).2 28 (rfv (n + 22)))), n + 23, 23, 27196 + 2)
  rw [u1_s, u1_uu]
  obtain ⟨A23, hA23⟩ : ∃ A23, A23 = u1 A22 (n + 22) (.inr (0, 2, .inl (fun _ => 0))) := ⟨_, rfl⟩
  obtain ⟨f23, hf23⟩ : ∃ f23, f23 = u1 f22 28 (rfv (n + 22)) := ⟨_, rfl⟩
  show G 191 [some (rfv k), some (.inl a0), some (.inl a1), some (.inl a2), some (.inl a3), some (.inl a4), none] [] (u1 (u1 A22 (n + 22) (.inr (0, 2, .inl (fun _ => 0)))) k (.inl (8, u1 f22 28 (rfv (n + 22)))), n + 23, 23, 27196 + 2)
  rw [← hA23, ← hf23]
  show G 191 [some (rfv k), some (.inl a0), some (.inl a1), some (.inl a2), some (.inl a3), some (.inl a4), none] [] (u1 A23 k (.inl (8, f23)), n + 23, 23, 27198)
  refine hG (fun pc => Nat.beq pc 195) 10 191 _ _ _ (And.intro ⟨by decide, by rw [c2]; omega, (show 23 + 1 ≤ 33 by omega), (show 27198 + (2 : Int32).toNatClampNeg ≤ 27235 by rw [c2]; omega)⟩ ?_)
  show G 195 [some (rfv k), some (.inl a0), some (.inl a1), some (.inl a2), some (.inl a3), some (.inl a4), none] [rfv (n + 23), rfv k] (u1 (u1 A23 k (.inl (8, f23))) (n + 23) (.inr (0, (2 : Int32).toNatClampNeg, .inl (fun _ => 0))), n + 24, 24, 27198 + (2 : Int32).toNatClampNeg)
  rw [c2, u1_cm _ _ _ (show ¬ k = n + 23 by omega)]
  refine hG (fun pc => Nat.beq pc 198) 10 195 _ _ _ (And.intro ⟨by show k < n + 24; omega, by show (ob (u1 _ k _ k)).1 = 8; rw [u1_s]; rfl, _, rfl⟩ ?_)
  show G 198 [some (rfv k), some (.inl a0), some (.inl a1), some (.inl a2), some (.inl a3), some (.inl a4), none] [] (u1 (u1 (u1 A23 (n + 23) (.inr (0, 2, .inl (fun _ => 0)))) k (.inl (8, f23))) k (.inl (8, u1 (ob (u1 (u1 A23 (n + 23) (.inr (0, 2, .inl (fun _ => 0)))) k (.inl (8, f23)) k)).2 29 (rfv (n + 23)))), n + 24, 24, 27198 + 2)
  rw [u1_s, u1_uu]
  obtain ⟨A24, hA24⟩ : ∃ A24, A24 = u1 A23 (n + 23) (.inr (0, 2, .inl (fun _ => 0))) := ⟨_, rfl⟩
  obtain ⟨f24, hf24⟩ : ∃ f24, f24 = u1 f23 29 (rfv (n + 23)) := ⟨_, rfl⟩
  show G 198 [some (rfv k), some (.inl a0), some (.inl a1), some (.inl a2), some (.inl a3), some (.inl a4), none] [] (u1 (u1 A23 (n + 23) (.inr (0, 2, .inl (fun _ => 0)))) k (.inl (8, u1 f23 29 (rfv (n + 23)))), n + 24, 24, 27198 + 2)
  rw [← hA24, ← hf24]
  show G 198 [some (rfv k), some (.inl a0), some (.inl a1), some (.inl a2), some (.inl a3), some (.inl a4), none] [] (u1 A24 k (.inl (8, f24)), n + 24, 24, 27200)
  refine hG (fun pc => Nat.beq pc 202) 10 198 _ _ _ (And.intro ⟨by decide, by rw [c2]; omega, (show 24 + 1 ≤ 33 by omega), (show 27200 + (2 : Int32).toNatClampNeg ≤ 27235 by rw [c2]; omega)⟩ ?_)
  show G 202 [some (rfv k), some (.inl a0), some (.inl a1), some (.inl a2), some (.inl a3), some (.inl a4), none] [rfv (n + 24), rfv k] (u1 (u1 A24 k (.inl (8, f24))) (n + 24) (.inr (0, (2 : Int32).toNatClampNeg, .inl (fun _ => 0))), n + 25, 25, 27200 + (2 : Int32).toNatClampNeg)
  rw [c2, u1_cm _ _ _ (show ¬ k = n + 24 by omega)]
  refine hG (fun pc => Nat.beq pc 205) 10 202 _ _ _ (And.intro ⟨by show k < n + 25; omega, by show (ob (u1 _ k _ k)).1 = 8; rw [u1_s]; rfl, _, rfl⟩ ?_)
  show G 205 [some (rfv k), some (.inl a0), some (.inl a1), some (.inl a2), some (.inl a3), some (.inl a4), none] [] (u1 (u1 (u1 A24 (n + 24) (.inr (0, 2, .inl (fun _ => 0)))) k (.inl (8, f24))) k (.inl (8, u1 (ob (u1 (u1 A24 (n + 24) (.inr (0, 2, .inl (fun _ => 0)))) k (.inl (8, f24)) k)).2 30 (rfv (n + 24)))), n + 25, 25, 27200 + 2)
  rw [u1_s, u1_uu]
  obtain ⟨A25, hA25⟩ : ∃ A25, A25 = u1 A24 (n + 24) (.inr (0, 2, .inl (fun _ => 0))) := ⟨_, rfl⟩
  obtain ⟨f25, hf25⟩ : ∃ f25, f25 = u1 f24 30 (rfv (n + 24)) := ⟨_, rfl⟩
  show G 205 [some (rfv k), some (.inl a0), some (.inl a1), some (.inl a2), some (.inl a3), some (.inl a4), none] [] (u1 (u1 A24 (n + 24) (.inr (0, 2, .inl (fun _ => 0)))) k (.inl (8, u1 f24 30 (rfv (n + 24)))), n + 25, 25, 27200 + 2)
  rw [← hA25, ← hf25]
  show G 205 [some (rfv k), some (.inl a0), some (.inl a1), some (.inl a2), some (.inl a3), some (.inl a4), none] [] (u1 A25 k (.inl (8, f25)), n + 25, 25, 27202)
  refine hG (fun pc => Nat.beq pc 209) 10 205 _ _ _ (And.intro ⟨by decide, by rw [c2]; omega, (show 25 + 1 ≤ 33 by omega), (show 27202 + (2 : Int32).toNatClampNeg ≤ 27235 by rw [c2]; omega)⟩ ?_)
  show G 209 [some (rfv k), some (.inl a0), some (.inl a1), some (.inl a2), some (.inl a3), some (.inl a4), none] [rfv (n + 25), rfv k] (u1 (u1 A25 k (.inl (8, f25))) (n + 25) (.inr (0, (2 : Int32).toNatClampNeg, .inl (fun _ => 0))), n + 26, 26, 27202 + (2 : Int32).toNatClampNeg)
  rw [c2, u1_cm _ _ _ (show ¬ k = n + 25 by omega)]
  refine hG (fun pc => Nat.beq pc 212) 10 209 _ _ _ (And.intro ⟨by show k < n + 26; omega, by show (ob (u1 _ k _ k)).1 = 8; rw [u1_s]; rfl, _, rfl⟩ ?_)
  show G 212 [some (rfv k), some (.inl a0), some (.inl a1), some (.inl a2), some (.inl a3), some (.inl a4), none] [] (u1 (u1 (u1 A25 (n + 25) (.inr (0, 2, .inl (fun _ => 0)))) k (.inl (8, f25))) k (.inl (8, u1 (ob (u1 (u1 A25 (n + 25) (.inr (0, 2, .inl (fun _ => 0)))) k (.inl (8, f25)) k)).2 31 (rfv (n + 25)))), n + 26, 26, 27202 + 2)
  rw [u1_s, u1_uu]
  obtain ⟨A26, hA26⟩ : ∃ A26, A26 = u1 A25 (n + 25) (.inr (0, 2, .inl (fun _ => 0))) := ⟨_, rfl⟩
  obtain ⟨f26, hf26⟩ : ∃ f26, f26 = u1 f25 31 (rfv (n + 25)) := ⟨_, rfl⟩
  show G 212 [some (rfv k), some (.inl a0), some (.inl a1), some (.inl a2), some (.inl a3), some (.inl a4), none] [] (u1 (u1 A25 (n + 25) (.inr (0, 2, .inl (fun _ => 0)))) k (.inl (8, u1 f25 31 (rfv (n + 25)))), n + 26, 26, 27202 + 2)
  rw [← hA26, ← hf26]
  show G 212 [some (rfv k), some (.inl a0), some (.inl a1), some (.inl a2), some (.inl a3), some (.inl a4), none] [] (u1 A26 k (.inl (8, f26)), n + 26, 26, 27204)
  refine hG (fun pc => Nat.beq pc 216) 10 212 _ _ _ (And.intro ⟨by decide, by rw [c2]; omega, (show 26 + 1 ≤ 33 by omega), (show 27204 + (2 : Int32).toNatClampNeg ≤ 27235 by rw [c2]; omega)⟩ ?_)
  show G 216 [some (rfv k), some (.inl a0), some (.inl a1), some (.inl a2), some (.inl a3), some (.inl a4), none] [rfv (n + 26), rfv k] (u1 (u1 A26 k (.inl (8, f26))) (n + 26) (.inr (1, (2 : Int32).toNatClampNeg, .inl (fun _ => 0))), n + 27, 27, 27204 + (2 : Int32).toNatClampNeg)
  rw [c2, u1_cm _ _ _ (show ¬ k = n + 26 by omega)]
  refine hG (fun pc => Nat.beq pc 219) 10 216 _ _ _ (And.intro ⟨by show k < n + 27; omega, by show (ob (u1 _ k _ k)).1 = 8; rw [u1_s]; rfl, _, rfl⟩ ?_)
  show G 219 [some (rfv k), some (.inl a0), some (.inl a1), some (.inl a2), some (.inl a3), some (.inl a4), none] [] (u1 (u1 (u1 A26 (n + 26) (.inr (1, 2, .inl (fun _ => 0)))) k (.inl (8, f26))) k (.inl (8, u1 (ob (u1 (u1 A26 (n + 26) (.inr (1, 2, .inl (fun _ => 0)))) k (.inl (8, f26)) k)).2 32 (rfv (n + 26)))), n + 27, 27, 27204 + 2)
  rw [u1_s, u1_uu]
  obtain ⟨A27, hA27⟩ : ∃ A27, A27 = u1 A26 (n + 26) (.inr (1, 2, .inl (fun _ => 0))) := ⟨_, rfl⟩
  obtain ⟨f27, hf27⟩ : ∃ f27, f27 = u1 f26 32 (rfv (n + 26)) := ⟨_, rfl⟩
  show G 219 [some (rfv k), some (.inl a0), some (.inl a1), some (.inl a2), some (.inl a3), some (.inl a4), none] [] (u1 (u1 A26 (n + 26) (.inr (1, 2, .inl (fun _ => 0)))) k (.inl (8, u1 f26 32 (rfv (n + 26)))), n + 27, 27, 27204 + 2)
  rw [← hA27, ← hf27]
  show G 219 [some (rfv k), some (.inl a0), some (.inl a1), some (.inl a2), some (.inl a3), some (.inl a4), none] [] (u1 A27 k (.inl (8, f27)), n + 27, 27, 27206)
  refine hG (fun pc => Nat.beq pc 223) 10 219 _ _ _ (And.intro ⟨by decide, by rw [c2]; omega, (show 27 + 1 ≤ 33 by omega), (show 27206 + (2 : Int32).toNatClampNeg ≤ 27235 by rw [c2]; omega)⟩ ?_)
  show G 223 [some (rfv k), some (.inl a0), some (.inl a1), some (.inl a2), some (.inl a3), some (.inl a4), none] [rfv (n + 27), rfv k] (u1 (u1 A27 k (.inl (8, f27))) (n + 27) (.inr (0, (2 : Int32).toNatClampNeg, .inl (fun _ => 0))), n + 28, 28, 27206 + (2 : Int32).toNatClampNeg)
  rw [c2, u1_cm _ _ _ (show ¬ k = n + 27 by omega)]
  refine hG (fun pc => Nat.beq pc 226) 10 223 _ _ _ (And.intro ⟨by show k < n + 28; omega, by show (ob (u1 _ k _ k)).1 = 8; rw [u1_s]; rfl, _, rfl⟩ ?_)
  show G 226 [some (rfv k), some (.inl a0), some (.inl a1), some (.inl a2), some (.inl a3), some (.inl a4), none] [] (u1 (u1 (u1 A27 (n + 27) (.inr (0, 2, .inl (fun _ => 0)))) k (.inl (8, f27))) k (.inl (8, u1 (ob (u1 (u1 A27 (n + 27) (.inr (0, 2, .inl (fun _ => 0)))) k (.inl (8, f27)) k)).2 33 (rfv (n + 27)))), n + 28, 28, 27206 + 2)
  rw [u1_s, u1_uu]
  obtain ⟨A28, hA28⟩ : ∃ A28, A28 = u1 A27 (n + 27) (.inr (0, 2, .inl (fun _ => 0))) := ⟨_, rfl⟩
  obtain ⟨f28, hf28⟩ : ∃ f28, f28 = u1 f27 33 (rfv (n + 27)) := ⟨_, rfl⟩
  show G 226 [some (rfv k), some (.inl a0), some (.inl a1), some (.inl a2), some (.inl a3), some (.inl a4), none] [] (u1 (u1 A27 (n + 27) (.inr (0, 2, .inl (fun _ => 0)))) k (.inl (8, u1 f27 33 (rfv (n + 27)))), n + 28, 28, 27206 + 2)
  rw [← hA28, ← hf28]
  show G 226 [some (rfv k), some (.inl a0), some (.inl a1), some (.inl a2), some (.inl a3), some (.inl a4), none] [] (u1 A28 k (.inl (8, f28)), n + 28, 28, 27208)
  refine hG (fun pc => Nat.beq pc 230) 10 226 _ _ _ (And.intro ⟨by decide, by rw [c2]; omega, (show 28 + 1 ≤ 33 by omega), (show 27208 + (2 : Int32).toNatClampNeg ≤ 27235 by rw [c2]; omega)⟩ ?_)
  show G 230 [some (rfv k), some (.inl a0), some (.inl a1), some (.inl a2), some (.inl a3), some (.inl a4), none] [rfv (n + 28), rfv k] (u1 (u1 A28 k (.inl (8, f28))) (n + 28) (.inr (0, (2 : Int32).toNatClampNeg, .inl (fun _ => 0))), n + 29, 29, 27208 + (2 : Int32).toNatClampNeg)
  rw [c2, u1_cm _ _ _ (show ¬ k = n + 28 by omega)]
  refine hG (fun pc => Nat.beq pc 233) 10 230 _ _ _ (And.intro ⟨by show k < n + 29; omega, by show (ob (u1 _ k _ k)).1 = 8; rw [u1_s]; rfl, _, rfl⟩ ?_)
  show G 233 [some (rfv k), some (.inl a0), some (.inl a1), some (.inl a2), some (.inl a3), some (.inl a4), none] [] (u1 (u1 (u1 A28 (n + 28) (.inr (0, 2, .inl (fun _ => 0)))) k (.inl (8, f28))) k (.inl (8, u1 (ob (u1 (u1 A28 (n + 28) (.inr (0, 2, .inl (fun _ => 0)))) k (.inl (8, f28)) k)).2 34 (rfv (n + 28)))), n + 29, 29, 27208 + 2)
  rw [u1_s, u1_uu]
  obtain ⟨A29, hA29⟩ : ∃ A29, A29 = u1 A28 (n + 28) (.inr (0, 2, .inl (fun _ => 0))) := ⟨_, rfl⟩
  obtain ⟨f29, hf29⟩ : ∃ f29, f29 = u1 f28 34 (rfv (n + 28)) := ⟨_, rfl⟩
  show G 233 [some (rfv k), some (.inl a0), some (.inl a1), some (.inl a2), some (.inl a3), some (.inl a4), none] [] (u1 (u1 A28 (n + 28) (.inr (0, 2, .inl (fun _ => 0)))) k (.inl (8, u1 f28 34 (rfv (n + 28)))), n + 29, 29, 27208 + 2)
  rw [← hA29, ← hf29]
  show G 233 [some (rfv k), some (.inl a0), some (.inl a1), some (.inl a2), some (.inl a3), some (.inl a4), none] [] (u1 A29 k (.inl (8, f29)), n + 29, 29, 27210)
  refine hG (fun pc => Nat.beq pc 237) 10 233 _ _ _ (And.intro ⟨by decide, by rw [c2]; omega, (show 29 + 1 ≤ 33 by omega), (show 27210 + (2 : Int32).toNatClampNeg ≤ 27235 by rw [c2]; omega)⟩ ?_)
  show G 237 [some (rfv k), some (.inl a0), some (.inl a1), some (.inl a2), some (.inl a3), some (.inl a4), none] [rfv (n + 29), rfv k] (u1 (u1 A29 k (.inl (8, f29))) (n + 29) (.inr (0, (2 : Int32).toNatClampNeg, .inl (fun _ => 0))), n + 30, 30, 27210 + (2 : Int32).toNatClampNeg)
  rw [c2, u1_cm _ _ _ (show ¬ k = n + 29 by omega)]
  refine hG (fun pc => Nat.beq pc 240) 10 237 _ _ _ (And.intro ⟨by show k < n + 30; omega, by show (ob (u1 _ k _ k)).1 = 8; rw [u1_s]; rfl, _, rfl⟩ ?_)
  show G 240 [some (rfv k), some (.inl a0), some (.inl a1), some (.inl a2), some (.inl a3), some (.inl a4), none] [] (u1 (u1 (u1 A29 (n + 29) (.inr (0, 2, .inl (fun _ => 0)))) k (.inl (8, f29))) k (.inl (8, u1 (ob (u1 (u1 A29 (n + 29) (.inr (0, 2, .inl (fun _ => 0)))) k (.inl (8, f29)) k)).2 35 (rfv (n + 29)))), n + 30, 30, 27210 + 2)
  rw [u1_s, u1_uu]
  obtain ⟨A30, hA30⟩ : ∃ A30, A30 = u1 A29 (n + 29) (.inr (0, 2, .inl (fun _ => 0))) := ⟨_, rfl⟩
  obtain ⟨f30, hf30⟩ : ∃ f30, f30 = u1 f29 35 (rfv (n + 29)) := ⟨_, rfl⟩
  show G 240 [some (rfv k), some (.inl a0), some (.inl a1), some (.inl a2), some (.inl a3), some (.inl a4), none] [] (u1 (u1 A29 (n + 29) (.inr (0, 2, .inl (fun _ => 0)))) k (.inl (8, u1 f29 35 (rfv (n + 29)))), n + 30, 30, 27210 + 2)
  rw [← hA30, ← hf30]
  show G 240 [some (rfv k), some (.inl a0), some (.inl a1), some (.inl a2), some (.inl a3), some (.inl a4), none] [] (u1 A30 k (.inl (8, f30)), n + 30, 30, 27212)
  refine hG (fun pc => Nat.beq pc 244) 10 240 _ _ _ (And.intro ⟨by decide, by rw [c2]; omega, (show 30 + 1 ≤ 33 by omega), (show 27212 + (2 : Int32).toNatClampNeg ≤ 27235 by rw [c2]; omega)⟩ ?_)
  show G 244 [some (rfv k), some (.inl a0), some (.inl a1), some (.inl a2), some (.inl a3), some (.inl a4), none] [rfv (n + 30), rfv k] (u1 (u1 A30 k (.inl (8, f30))) (n + 30) (.inr (0, (2 : Int32).toNatClampNeg, .inl (fun _ => 0))), n + 31, 31, 27212 + (2 : Int32).toNatClampNeg)
  rw [c2, u1_cm _ _ _ (show ¬ k = n + 30 by omega)]
  refine hG (fun pc => Nat.beq pc 247) 10 244 _ _ _ (And.intro ⟨by show k < n + 31; omega, by show (ob (u1 _ k _ k)).1 = 8; rw [u1_s]; rfl, _, rfl⟩ ?_)
  show G 247 [some (rfv k), some (.inl a0), some (.inl a1), some (.inl a2), some (.inl a3), some (.inl a4), none] [] (u1 (u1 (u1 A30 (n + 30) (.inr (0, 2, .inl (fun _ => 0)))) k (.inl (8, f30))) k (.inl (8, u1 (ob (u1 (u1 A30 (n + 30) (.inr (0, 2, .inl (fun _ => 0)))) k (.inl (8, f30)) k)).2 36 (rfv (n + 30)))), n + 31, 31, 27212 + 2)
  rw [u1_s, u1_uu]
  obtain ⟨A31, hA31⟩ : ∃ A31, A31 = u1 A30 (n + 30) (.inr (0, 2, .inl (fun _ => 0))) := ⟨_, rfl⟩
  obtain ⟨f31, hf31⟩ : ∃ f31, f31 = u1 f30 36 (rfv (n + 30)) := ⟨_, rfl⟩
  show G 247 [some (rfv k), some (.inl a0), some (.inl a1), some (.inl a2), some (.inl a3), some (.inl a4), none] [] (u1 (u1 A30 (n + 30) (.inr (0, 2, .inl (fun _ => 0)))) k (.inl (8, u1 f30 36 (rfv (n + 30)))), n + 31, 31, 27212 + 2)
  rw [← hA31, ← hf31]
  show G 247 [some (rfv k), some (.inl a0), some (.inl a1), some (.inl a2), some (.inl a3), some (.inl a4), none] [] (u1 A31 k (.inl (8, f31)), n + 31, 31, 27214)
  refine hG (fun pc => Nat.beq pc 251) 10 247 _ _ _ (And.intro ⟨by decide, by rw [c2]; omega, (show 31 + 1 ≤ 33 by omega), (show 27214 + (2 : Int32).toNatClampNeg ≤ 27235 by rw [c2]; omega)⟩ ?_)
  show G 251 [some (rfv k), some (.inl a0), some (.inl a1), some (.inl a2), some (.inl a3), some (.inl a4), none] [rfv (n + 31), rfv k] (u1 (u1 A31 k (.inl (8, f31))) (n + 31) (.inr (0, (2 : Int32).toNatClampNeg, .inl (fun _ => 0))), n + 32, 32, 27214 + (2 : Int32).toNatClampNeg)
  rw [c2, u1_cm _ _ _ (show ¬ k = n + 31 by omega)]
  refine hG (fun pc => Nat.beq pc 254) 10 251 _ _ _ (And.intro ⟨by show k < n + 32; omega, by show (ob (u1 _ k _ k)).1 = 8; rw [u1_s]; rfl, _, rfl⟩ ?_)
  show G 254 [some (rfv k), some (.inl a0), some (.inl a1), some (.inl a2), some (.inl a3), some (.inl a4), none] [] (u1 (u1 (u1 A31 (n + 31) (.inr (0, 2, .inl (fun _ => 0)))) k (.inl (8, f31))) k (.inl (8, u1 (ob (u1 (u1 A31 (n + 31) (.inr (0, 2, .inl (fun _ => 0)))) k (.inl (8, f31)) k)).2 37 (rfv (n + 31)))), n + 32, 32, 27214 + 2)
  rw [u1_s, u1_uu]
  obtain ⟨A32, hA32⟩ : ∃ A32, A32 = u1 A31 (n + 31) (.inr (0, 2, .inl (fun _ => 0))) := ⟨_, rfl⟩
  obtain ⟨f32, hf32⟩ : ∃ f32, f32 = u1 f31 37 (rfv (n + 31)) := ⟨_, rfl⟩
  show G 254 [some (rfv k), some (.inl a0), some (.inl a1), some (.inl a2), some (.inl a3), some (.inl a4), none] [] (u1 (u1 A31 (n + 31) (.inr (0, 2, .inl (fun _ => 0)))) k (.inl (8, u1 f31 37 (rfv (n + 31)))), n + 32, 32, 27214 + 2)
  rw [← hA32, ← hf32]
  show G 254 [some (rfv k), some (.inl a0), some (.inl a1), some (.inl a2), some (.inl a3), some (.inl a4), none] [] (u1 A32 k (.inl (8, f32)), n + 32, 32, 27216)
  refine hG (fun pc => Nat.beq pc 259) 10 254 _ _ _ (And.intro ⟨by decide, by rw [c19]; omega, (show 32 + 1 ≤ 33 by omega), (show 27216 + (19 : Int32).toNatClampNeg ≤ 27235 by rw [c19]; omega)⟩ ?_)
  show G 259 [some (rfv k), some (.inl a0), some (.inl a1), some (.inl a2), some (.inl a3), some (.inl a4), none] [rfv (n + 32), rfv k] (u1 (u1 A32 k (.inl (8, f32))) (n + 32) (.inr (0, (19 : Int32).toNatClampNeg, .inl (fun _ => 0))), n + 33, 33, 27216 + (19 : Int32).toNatClampNeg)
  rw [c19, u1_cm _ _ _ (show ¬ k = n + 32 by omega)]
  refine hG (fun pc => Nat.beq pc 262) 10 259 _ _ _ (And.intro ⟨by show k < n + 33; omega, by show (ob (u1 _ k _ k)).1 = 8; rw [u1_s]; rfl, _, rfl⟩ ?_)
  show G 262 [some (rfv k), some (.inl a0), some (.inl a1), some (.inl a2), some (.inl a3), some (.inl a4), none] [] (u1 (u1 (u1 A32 (n + 32) (.inr (0, 19, .inl (fun _ => 0)))) k (.inl (8, f32))) k (.inl (8, u1 (ob (u1 (u1 A32 (n + 32) (.inr (0, 19, .inl (fun _ => 0)))) k (.inl (8, f32)) k)).2 38 (rfv (n + 32)))), n + 33, 33, 27216 + 19)
  rw [u1_s, u1_uu]
  obtain ⟨A33, hA33⟩ : ∃ A33, A33 = u1 A32 (n + 32) (.inr (0, 19, .inl (fun _ => 0))) := ⟨_, rfl⟩
  obtain ⟨f33, hf33⟩ : ∃ f33, f33 = u1 f32 38 (rfv (n + 32)) := ⟨_, rfl⟩
  show G 262 [some (rfv k), some (.inl a0), some (.inl a1), some (.inl a2), some (.inl a3), some (.inl a4), none] [] (u1 (u1 A32 (n + 32) (.inr (0, 19, .inl (fun _ => 0)))) k (.inl (8, u1 f32 38 (rfv (n + 32)))), n + 33, 33, 27216 + 19)
  rw [← hA33, ← hf33]
  show G 262 [some (rfv k), some (.inl a0), some (.inl a1), some (.inl a2), some (.inl a3), some (.inl a4), none] [] (u1 A33 k (.inl (8, f33)), n + 33, 33, 27235)
  have eA : A33 = n_ar n E 33 := by
    rw [hA33, hA32, hA31, hA30, hA29, hA28, hA27, hA26, hA25, hA24, hA23, hA22, hA21, hA20, hA19, hA18, hA17, hA16, hA15, hA14, hA13, hA12, hA11, hA10, hA9, hA8, hA7, hA6, hA5, hA4, hA3, hA2, hA1, hA0]
    rfl
  have ef : f33 = n_mf n (ck_dv 8) 33 := by
    rw [hf33, hf32, hf31, hf30, hf29, hf28, hf27, hf26, hf25, hf24, hf23, hf22, hf21, hf20, hf19, hf18, hf17, hf16, hf15, hf14, hf13, hf12, hf11, hf10, hf9, hf8, hf7, hf6, hf5, hf4, hf3, hf2, hf1, hf0]
    rfl
  rw [eA, ef]
  exact hd
theorem jX8_init (avs : List sw_V) (σ : ck_2) (G : Nat → sw_L → List sw_V → ck_S → Prop) (hf : (zX8_init avs σ).1) (hG : jwX8_init avs σ G) : G 0 (sw_ent 7 avs) [] (σ.1, σ.2, 0, 0) := by
  obtain ⟨k, a0, a1, a2, a3, a4, rfl⟩ := zX8_init_of hf
  obtain ⟨E, n⟩ := σ
  obtain ⟨h1, h2, h3⟩ := hf
  have h1 : k < n := h1
  have h2 : E k = .inl (8, ck_dv 8) := h2
  refine hG (fun pc => Nat.beq pc 4) 10 0 _ _ _ (And.intro trivial ?_)
  refine jX8_arr k n a0 a1 a2 a3 a4 E G _ _ hG h1 h2 ?_
  obtain ⟨A, hA⟩ : ∃ A, A = n_ar n E 33 := ⟨_, rfl⟩
  obtain ⟨g0, hg0⟩ : ∃ g0, g0 = n_mf n (ck_dv 8) 33 := ⟨_, rfl⟩
  rw [← hA, ← hg0]
  have hc : (33 : Nat) + 0 ≤ 33 := Nat.le_refl _
  have hs : (27235 : Nat) + 0 ≤ 27235 := Nat.le_refl _
  refine hG (fun pc => Nat.beq pc 273) 20 262 _ _ _ (And.intro ⟨trivial, hc, hs⟩ (And.intro ⟨by show k < n + 33; omega, by show (ob (u1 A k _ k)).1 = 8; rw [u1_s]; rfl, _, rfl⟩ ?_))
  show G 273 [some (rfv k), some (.inl a0), some (.inl a1), some (.inl a2), some (.inl a3), some (.inl a4), none] [] (u1 (u1 A k (.inl (8, g0))) k (.inl (8, u1 (ob (u1 A k (.inl (8, g0)) k)).2 0 (.inl (wit8 a0 1 8)))), n + 33, 33, 27235)
  rw [u1_s, u1_uu]
  obtain ⟨g1, hg1⟩ : ∃ g1, g1 = u1 g0 0 (.inl (wit8 a0 1 8)) := ⟨_, rfl⟩
  show G 273 [some (rfv k), some (.inl a0), some (.inl a1), some (.inl a2), some (.inl a3), some (.inl a4), none] [] (u1 A k (.inl (8, u1 g0 0 (.inl (wit8 a0 1 8)))), n + 33, 33, 27235)
  rw [← hg1]
  refine hG (fun pc => Nat.beq pc 284) 20 273 _ _ _ (And.intro ⟨trivial, hc, hs⟩ (And.intro ⟨by show k < n + 33; omega, by show (ob (u1 A k _ k)).1 = 8; rw [u1_s]; rfl, _, rfl⟩ ?_))
  show G 284 [some (rfv k), some (.inl a0), some (.inl a1), some (.inl a2), some (.inl a3), some (.inl a4), none] [] (u1 (u1 A k (.inl (8, g1))) k (.inl (8, u1 (ob (u1 A k (.inl (8, g1)) k)).2 1 (.inl (wit8 a1 1 16)))), n + 33, 33, 27235)
  rw [u1_s, u1_uu]
  obtain ⟨g2, hg2⟩ : ∃ g2, g2 = u1 g1 1 (.inl (wit8 a1 1 16)) := ⟨_, rfl⟩
  show G 284 [some (rfv k), some (.inl a0), some (.inl a1), some (.inl a2), some (.inl a3), some (.inl a4), none] [] (u1 A k (.inl (8, u1 g1 1 (.inl (wit8 a1 1 16)))), n + 33, 33, 27235)
  rw [← hg2]
  refine hG (fun pc => Nat.beq pc 295) 20 284 _ _ _ (And.intro ⟨trivial, hc, hs⟩ (And.intro ⟨by show k < n + 33; omega, by show (ob (u1 A k _ k)).1 = 8; rw [u1_s]; rfl, _, rfl⟩ ?_))
  show G 295 [some (rfv k), some (.inl a0), some (.inl a1), some (.inl a2), some (.inl a3), some (.inl a4), none] [] (u1 (u1 A k (.inl (8, g2))) k (.inl (8, u1 (ob (u1 A k (.inl (8, g2)) k)).2 2 (.inl (wit8 a2 1 15)))), n + 33, 33, 27235)
  rw [u1_s, u1_uu]
  obtain ⟨g3, hg3⟩ : ∃ g3, g3 = u1 g2 2 (.inl (wit8 a2 1 15)) := ⟨_, rfl⟩
  show G 295 [some (rfv k), some (.inl a0), some (.inl a1), some (.inl a2), some (.inl a3), some (.inl a4), none] [] (u1 A k (.inl (8, u1 g2 2 (.inl (wit8 a2 1 15)))), n + 33, 33, 27235)
  rw [← hg3]
  refine hG (fun pc => Nat.beq pc 308) 20 295 _ _ _ (And.intro ⟨trivial, hc, hs⟩ (And.intro ⟨by show k < n + 33; omega, by show (ob (u1 A k _ k)).1 = 8; rw [u1_s]; rfl, _, rfl⟩ ?_))
  show G 308 [some (rfv k), some (.inl a0), some (.inl a1), some (.inl a2), some (.inl a3), some (.inl a4), none] [] (u1 (u1 A k (.inl (8, g3))) k (.inl (8, u1 (ob (u1 A k (.inl (8, g3)) k)).2 3 (.inl (wit8 a3 4 400)))), n + 33, 33, 27235)
  rw [u1_s, u1_uu]
  obtain ⟨g4, hg4⟩ : ∃ g4, g4 = u1 g3 3 (.inl (wit8 a3 4 400)) := ⟨_, rfl⟩
  show G 308 [some (rfv k), some (.inl a0), some (.inl a1), some (.inl a2), some (.inl a3), some (.inl a4), none] [] (u1 A k (.inl (8, u1 g3 3 (.inl (wit8 a3 4 400)))), n + 33, 33, 27235)
  rw [← hg4]
  refine hG (fun pc => Nat.beq pc 320) 20 308 _ _ _ (And.intro ⟨trivial, hc, hs⟩ (And.intro ⟨by show k < n + 33; omega, by show (ob (u1 A k _ k)).1 = 8; rw [u1_s]; rfl, _, rfl⟩ ?_))
  show G 320 [some (rfv k), some (.inl a0), some (.inl a1), some (.inl a2), some (.inl a3), some (.inl a4), none] [] (u1 (u1 A k (.inl (8, g4))) k (.inl (8, u1 (ob (u1 A k (.inl (8, g4)) k)).2 4 (.inl (wit8 a4 1 20)))), n + 33, 33, 27235)
  rw [u1_s, u1_uu]
  obtain ⟨g5, hg5⟩ : ∃ g5, g5 = u1 g4 4 (.inl (wit8 a4 1 20)) := ⟨_, rfl⟩
  show G 320 [some (rfv k), some (.inl a0), some (.inl a1), some (.inl a2), some (.inl a3), some (.inl a4), none] [] (u1 A k (.inl (8, u1 g4 4 (.inl (wit8 a4 1 20)))), n + 33, 33, 27235)
  rw [← hg5]
  have e3 : g5 3 = .inl (wit8 a3 4 400) := by rw [hg5, hg4]; rfl
  have e0 : g5 0 = .inl (wit8 a0 1 8) := by rw [hg5, hg4, hg3, hg2, hg1]; rfl
  obtain ⟨S, hS⟩ : ∃ S, S = u1 A k (.inl (8, g5)) := ⟨_, rfl⟩
  have eSk : S k = .inl (8, g5) := by rw [hS, u1_s]
  have hgt : ∀ j, (ob (S k)).2 j = g5 j := fun j => by rw [eSk]; rfl
  have hob : (ob (S k)).1 = 8 := by rw [eSk]; rfl
  rw [← hS]
  have hput : ∀ v, v = n_kept (wit8 a0 1 8) (wit8 a3 4 400) → G 351 [some (rfv k), some (.inl a0), some (.inl a1), some (.inl a2), some (.inl a3), some (.inl a4), none] [.inl v, rfv k] (S, n + 33, 33, 27235) := fun v hv => by
    refine hG (fun pc => Nat.beq pc 354) 20 351 _ _ _ (And.intro ⟨by show k < n + 33; omega, hob, _, rfl⟩ ?_)
    show G 354 [some (rfv k), some (.inl a0), some (.inl a1), some (.inl a2), some (.inl a3), some (.inl a4), none] [] (u1 S k (.inl (8, u1 (ob (S k)).2 5 (.inl v))), n + 33, 33, 27235)
    rw [eSk, hS, u1_uu]
    obtain ⟨g6, hg6⟩ : ∃ g6, g6 = u1 g5 5 (.inl v) := ⟨_, rfl⟩
    have egf : g6 = n_mv n (wit8 a0 1 8) (wit8 a1 1 16) (wit8 a2 1 15) (wit8 a3 4 400) (wit8 a4 1 20) := by
      rw [hg6, hg5, hg4, hg3, hg2, hg1, hg0, hv]
      rfl
    show G 354 [some (rfv k), some (.inl a0), some (.inl a1), some (.inl a2), some (.inl a3), some (.inl a4), none] [] (u1 A k (.inl (8, u1 g5 5 (.inl v))), n + 33, 33, 27235)
    rw [← hg6]
    have hon : (fun _ : Nat => (0 : Int32)) = n_on 0 := by
      funext j
      exact (if_neg (Nat.not_lt_zero j)).symm
    have eA : A = n_mc n 0 0 E := by
      have q4 : A (n + 4) = .inr (0, 16, .inl (n_on 0)) := by
        rw [hA, n_ar_at 33 (by decide), ← hon]
        rfl
      have q25 : A (n + 25) = .inr (0, 2, .inl (n_le 0)) := by
        rw [hA, n_ar_at 33 (by decide)]
        rfl
      unfold n_mc
      rw [← hA, ← q4]
      funext x
      by_cases hx : x = n + 25
      · rw [hx, u1_s, q25]
      · rw [u1_n _ _ hx]
        by_cases hx2 : x = n + 4
        · rw [hx2, u1_s]
        · rw [u1_n _ _ hx2]
    rw [eA]
    refine hG (fun pc => Nat.beq pc 357) 20 354 _ _ _ ?_
    show G 357 [some (rfv k), some (.inl a0), some (.inl a1), some (.inl a2), some (.inl a3), some (.inl a4), some (.inl (nI 0))] [] (u1 (n_mc n 0 0 E) k (.inl (8, g6)), n + 33, 33, 27235)
    have hw10 : g6 10 = rfv (n + 4) := by rw [egf]; rfl
    have hw31 : g6 31 = rfv (n + 25) := by rw [egf]; rfl
    refine jX8_loop k n g6 E G _ _ hG h1 hw10 a0 a1 a2 a3 a4 33 27235 ?_ 16 0 (by omega)
    -- left
    obtain ⟨T, hT⟩ : ∃ T, T = u1 (n_mc n 16 0 E) k (.inl (8, g6)) := ⟨_, rfl⟩
    have eTk : T k = .inl (8, g6) := by rw [hT, u1_s]
    have eT : T (n + 25) = .inr (0, 2, .inl (n_le 0)) := by rw [hT, u1_n _ _ (by omega), n_mc_25]
    rw [← hT]
    refine hG (fun pc => Nat.beq pc 382) 20 378 _ _ _ (And.intro ⟨by show k < n + 33; omega, by show (ob (T k)).1 = 8; rw [eTk]; rfl⟩ ?_)
    show G 382 [some (rfv k), some (.inl a0), some (.inl a1), some (.inl a2), some (.inl a3), some (.inl a4), some (.inl (nI 16))] [(ob (T k)).2 31] (T, n + 33, 33, 27235)
    rw [eTk]
    show G 382 [some (rfv k), some (.inl a0), some (.inl a1), some (.inl a2), some (.inl a3), some (.inl a4), some (.inl (nI 16))] [g6 31] (T, n + 33, 33, 27235)
    rw [hw31]
    refine hG (fun pc => Nat.beq pc 385) 20 382 _ _ _ (And.intro ⟨by show n + 25 < n + 33; omega, by show T (n + 25) = .inr (0, (ar (T (n + 25))).2, .inl (ri (T (n + 25)))); rw [eT]; rfl, by show vp_in 0 (ar (T (n + 25))).2; rw [eT]; exact vp_in_nI (n := 0) (by decide) (by decide)⟩ ?_)
    show G 385 [some (rfv k), some (.inl a0), some (.inl a1), some (.inl a2), some (.inl a3), some (.inl a4), some (.inl (nI 16))] [] (u1 T (n + 25) (.inr (0, (ar (T (n + 25))).2, .inl (u1 (ri (T (n + 25))) (0 : Int32).toNatClampNeg 1))), n + 33, 33, 27235)
    rw [eT]
    obtain ⟨U, hU⟩ : ∃ U, U = u1 T (n + 25) (.inr (0, 2, .inl (n_le 1))) := ⟨_, rfl⟩
    have eUk : U k = .inl (8, g6) := by rw [hU, u1_n _ _ (by omega), eTk]
    have eU : U (n + 25) = .inr (0, 2, .inl (n_le 1)) := by rw [hU, u1_s]
    show G 385 [some (rfv k), some (.inl a0), some (.inl a1), some (.inl a2), some (.inl a3), some (.inl a4), some (.inl (nI 16))] [] (u1 T (n + 25) (.inr (0, 2, .inl (n_le 1))), n + 33, 33, 27235)
    rw [← hU]
    refine hG (fun pc => Nat.beq pc 389) 20 385 _ _ _ (And.intro ⟨by show k < n + 33; omega, by show (ob (U k)).1 = 8; rw [eUk]; rfl⟩ ?_)
    show G 389 [some (rfv k), some (.inl a0), some (.inl a1), some (.inl a2), some (.inl a3), some (.inl a4), some (.inl (nI 16))] [(ob (U k)).2 31] (U, n + 33, 33, 27235)
    rw [eUk]
    show G 389 [some (rfv k), some (.inl a0), some (.inl a1), some (.inl a2), some (.inl a3), some (.inl a4), some (.inl (nI 16))] [g6 31] (U, n + 33, 33, 27235)
    rw [hw31]
    refine hG (fun _ => false) 20 389 _ _ _ (And.intro ⟨by show n + 25 < n + 33; omega, by show U (n + 25) = .inr (0, (ar (U (n + 25))).2, .inl (ri (U (n + 25)))); rw [eU]; rfl, by show vp_in 1 (ar (U (n + 25))).2; rw [eU]; exact vp_in_nI (n := 1) (by decide) (by decide)⟩ ⟨rfl, ?_, rfl, Nat.le_refl _, Nat.le_refl _, ck_nn⟩)
    show u1 U (n + 25) (.inr (0, (ar (U (n + 25))).2, .inl (u1 (ri (U (n + 25))) (1 : Int32).toNatClampNeg 1))) = n_model k n (wit8 a0 1 8) (wit8 a1 1 16) (wit8 a2 1 15) (wit8 a3 4 400) (wit8 a4 1 20) E
    rw [eU, hU, u1_uu, hT, u1_cm _ _ _ (show ¬ k = n + 25 by omega), egf]
    unfold n_model
    have em : u1 (n_mc n 16 0 E) (n + 25) (.inr (0, 2, .inl (n_le 2))) = n_mc n 16 2 E := by
      unfold n_mc
      rw [u1_uu]
    rw [← em]
    rfl
  refine hG (fun pc => Nat.beq pc 325) 20 320 _ _ _ (And.intro ⟨by show k < n + 33; omega, hob⟩ ?_)
  show G 325 [some (rfv k), some (.inl a0), some (.inl a1), some (.inl a2), some (.inl a3), some (.inl a4), none] [(ob (S k)).2 3, rfv k] (S, n + 33, 33, 27235)
  rw [hgt, e3]
  refine hG (fun pc => Nat.beq pc 330) 20 325 _ _ _ (And.intro ⟨by show k < n + 33; omega, hob⟩ ?_)
  show G 330 [some (rfv k), some (.inl a0), some (.inl a1), some (.inl a2), some (.inl a3), some (.inl a4), none] [(ob (S k)).2 0, .inl 2, .inl (wit8 a3 4 400), rfv k] (S, n + 33, 33, 27235)
  rw [hgt, e0]
  refine hG (fun pc => Nat.beq pc 340 || Nat.beq pc 351) 20 330 _ _ _ (And.intro h3 (And.intro (fun (z : wit8 a3 4 400 / (2 * wit8 a0 1 8) ≤ 1) => hput 1 ?_) (fun (z : ¬ wit8 a3 4 400 / (2 * wit8 a0 1 8) ≤ 1) => And.intro ⟨by show k < n + 33; omega, hob⟩ ?_)))
  · unfold n_kept
    rw [if_neg (Int32.not_lt.mpr z)]
  · show G 340 [some (rfv k), some (.inl a0), some (.inl a1), some (.inl a2), some (.inl a3), some (.inl a4), none] [(ob (S k)).2 3, rfv k] (S, n + 33, 33, 27235)
    rw [hgt, e3]
    refine hG (fun pc => Nat.beq pc 345) 20 340 _ _ _ (And.intro ⟨by show k < n + 33; omega, hob⟩ ?_)
    show G 345 [some (rfv k), some (.inl a0), some (.inl a1), some (.inl a2), some (.inl a3), some (.inl a4), none] [(ob (S k)).2 0, .inl 2, .inl (wit8 a3 4 400), rfv k] (S, n + 33, 33, 27235)
    rw [hgt, e0]
    refine hG (fun pc => Nat.beq pc 351) 20 345 _ _ _ (And.intro h3 (hput _ ?_))
    unfold n_kept
    rw [if_pos (Int32.not_le.mp z)]
    rfl
set_option maxRecDepth 100000 in
theorem qX8_init {l : Launch} {b : Nat} {ca : Nat → ClassId} {D : va_G} : ck_met l b ca D yX8_init cX8_init 7 none { frames := 1, cells := 33, slots := 27235, locals := 22 } 6 zX8_init := by
  refine ck_meth (by decide) (by first | exact Or.inl rfl | exact Or.inr rfl) (by decide) jkX8_init cnX8_in ?_ (fun avs σ G hlen hf hG => jX8_init avs σ G hf hG)
  intro p e s m args below meth c Qw S hname hT hnw
  refine List.forall_mem_cons.mpr ⟨ck_obj_ok S.1 S.2.1 S.2.2.1 S.2.2.2.2 S.2.2.2.1 (by decide +kernel) (by decide +kernel) (by decide +kernel) ⟨by decide, by decide⟩, ?_⟩
  refine List.forall_mem_cons.mpr ⟨ck_newi_ok S.1 S.2.1 S.2.2.2.2 hT, ?_⟩
  refine List.forall_mem_cons.mpr ⟨ck_put_ok S.1 S.2.1 S.2.2.2.2 S.2.2.2.1 hT (by decide) (by decide) (by decide +kernel) hname rfl, ?_⟩
  refine List.forall_mem_cons.mpr ⟨ck_newz_ok S.1 S.2.1 S.2.2.2.2 hT, ?_⟩
  refine List.forall_mem_cons.mpr ⟨ck_put_ok S.1 S.2.1 S.2.2.2.2 S.2.2.2.1 hT (by decide) (by decide) (by decide +kernel) hname rfl, ?_⟩
  refine List.forall_mem_cons.mpr ⟨ck_put_ok S.1 S.2.1 S.2.2.2.2 S.2.2.2.1 hT (by decide) (by decide) (by decide +kernel) hname rfl, ?_⟩
  refine List.forall_mem_cons.mpr ⟨ck_put_ok S.1 S.2.1 S.2.2.2.2 S.2.2.2.1 hT (by decide) (by decide) (by decide +kernel) hname rfl, ?_⟩
  refine List.forall_mem_cons.mpr ⟨ck_put_ok S.1 S.2.1 S.2.2.2.2 S.2.2.2.1 hT (by decide) (by decide) (by decide +kernel) hname rfl, ?_⟩
  refine List.forall_mem_cons.mpr ⟨ck_put_ok S.1 S.2.1 S.2.2.2.2 S.2.2.2.1 hT (by decide) (by decide) (by decide +kernel) hname rfl, ?_⟩
  refine List.forall_mem_cons.mpr ⟨ck_put_ok S.1 S.2.1 S.2.2.2.2 S.2.2.2.1 hT (by decide) (by decide) (by decide +kernel) hname rfl, ?_⟩
  refine List.forall_mem_cons.mpr ⟨ck_put_ok S.1 S.2.1 S.2.2.2.2 S.2.2.2.1 hT (by decide) (by decide) (by decide +kernel) hname rfl, ?_⟩
  refine List.forall_mem_cons.mpr ⟨ck_put_ok S.1 S.2.1 S.2.2.2.2 S.2.2.2.1 hT (by decide) (by decide) (by decide +kernel) hname rfl, ?_⟩
  refine List.forall_mem_cons.mpr ⟨ck_put_ok S.1 S.2.1 S.2.2.2.2 S.2.2.2.1 hT (by decide) (by decide) (by decide +kernel) hname rfl, ?_⟩
  refine List.forall_mem_cons.mpr ⟨ck_put_ok S.1 S.2.1 S.2.2.2.2 S.2.2.2.1 hT (by decide) (by decide) (by decide +kernel) hname rfl, ?_⟩
  refine List.forall_mem_cons.mpr ⟨ck_put_ok S.1 S.2.1 S.2.2.2.2 S.2.2.2.1 hT (by decide) (by decide) (by decide +kernel) hname rfl, ?_⟩
  refine List.forall_mem_cons.mpr ⟨ck_put_ok S.1 S.2.1 S.2.2.2.2 S.2.2.2.1 hT (by decide) (by decide) (by decide +kernel) hname rfl, ?_⟩
  refine List.forall_mem_cons.mpr ⟨ck_put_ok S.1 S.2.1 S.2.2.2.2 S.2.2.2.1 hT (by decide) (by decide) (by decide +kernel) hname rfl, ?_⟩
  refine List.forall_mem_cons.mpr ⟨ck_put_ok S.1 S.2.1 S.2.2.2.2 S.2.2.2.1 hT (by decide) (by decide) (by decide +kernel) hname rfl, ?_⟩
  refine List.forall_mem_cons.mpr ⟨ck_put_ok S.1 S.2.1 S.2.2.2.2 S.2.2.2.1 hT (by decide) (by decide) (by decide +kernel) hname rfl, ?_⟩
  refine List.forall_mem_cons.mpr ⟨ck_put_ok S.1 S.2.1 S.2.2.2.2 S.2.2.2.1 hT (by decide) (by decide) (by decide +kernel) hname rfl, ?_⟩
  refine List.forall_mem_cons.mpr ⟨ck_put_ok S.1 S.2.1 S.2.2.2.2 S.2.2.2.1 hT (by decide) (by decide) (by decide +kernel) hname rfl, ?_⟩
  refine List.forall_mem_cons.mpr ⟨ck_put_ok S.1 S.2.1 S.2.2.2.2 S.2.2.2.1 hT (by decide) (by decide) (by decide +kernel) hname rfl, ?_⟩
  refine List.forall_mem_cons.mpr ⟨ck_put_ok S.1 S.2.1 S.2.2.2.2 S.2.2.2.1 hT (by decide) (by decide) (by decide +kernel) hname rfl, ?_⟩
  refine List.forall_mem_cons.mpr ⟨ck_put_ok S.1 S.2.1 S.2.2.2.2 S.2.2.2.1 hT (by decide) (by decide) (by decide +kernel) hname rfl, ?_⟩
  refine List.forall_mem_cons.mpr ⟨ck_put_ok S.1 S.2.1 S.2.2.2.2 S.2.2.2.1 hT (by decide) (by decide) (by decide +kernel) hname rfl, ?_⟩
  refine List.forall_mem_cons.mpr ⟨ck_put_ok S.1 S.2.1 S.2.2.2.2 S.2.2.2.1 hT (by decide) (by decide) (by decide +kernel) hname rfl, ?_⟩
  refine List.forall_mem_cons.mpr ⟨ck_put_ok S.1 S.2.1 S.2.2.2.2 S.2.2.2.1 hT (by decide) (by decide) (by decide +kernel) hname rfl, ?_⟩
  refine List.forall_mem_cons.mpr ⟨ck_put_ok S.1 S.2.1 S.2.2.2.2 S.2.2.2.1 hT (by decide) (by decide) (by decide +kernel) hname rfl, ?_⟩
  refine List.forall_mem_cons.mpr ⟨ck_put_ok S.1 S.2.1 S.2.2.2.2 S.2.2.2.1 hT (by decide) (by decide) (by decide +kernel) hname rfl, ?_⟩
  refine List.forall_mem_cons.mpr ⟨ck_put_ok S.1 S.2.1 S.2.2.2.2 S.2.2.2.1 hT (by decide) (by decide) (by decide +kernel) hname rfl, ?_⟩
  refine List.forall_mem_cons.mpr ⟨ck_put_ok S.1 S.2.1 S.2.2.2.2 S.2.2.2.1 hT (by decide) (by decide) (by decide +kernel) hname rfl, ?_⟩
  refine List.forall_mem_cons.mpr ⟨ck_put_ok S.1 S.2.1 S.2.2.2.2 S.2.2.2.1 hT (by decide) (by decide) (by decide +kernel) hname rfl, ?_⟩
  refine List.forall_mem_cons.mpr ⟨ck_put_ok S.1 S.2.1 S.2.2.2.2 S.2.2.2.1 hT (by decide) (by decide) (by decide +kernel) hname rfl, ?_⟩
  refine List.forall_mem_cons.mpr ⟨ck_put_ok S.1 S.2.1 S.2.2.2.2 S.2.2.2.1 hT (by decide) (by decide) (by decide +kernel) hname rfl, ?_⟩
  refine List.forall_mem_cons.mpr ⟨ck_put_ok S.1 S.2.1 S.2.2.2.2 S.2.2.2.1 hT (by decide) (by decide) (by decide +kernel) hname rfl, ?_⟩
  refine List.forall_mem_cons.mpr ⟨ck_put_ok S.1 S.2.1 S.2.2.2.2 S.2.2.2.1 hT (by decide) (by decide) (by decide +kernel) hname rfl, ?_⟩
  refine List.forall_mem_cons.mpr ⟨ck_callS S hT hnw (rm' := { frames := 0, cells := 0, slots := 0, locals := 0 }) qX8_within 110 ⟨by decide +kernel, by decide +kernel, by decide +kernel, by decide +kernel⟩ ⟨by decide, by decide, by decide +kernel⟩ ⟨by decide, by decide⟩, ?_⟩
  refine List.forall_mem_cons.mpr ⟨ck_put_ok S.1 S.2.1 S.2.2.2.2 S.2.2.2.1 hT (by decide) (by decide) (by decide +kernel) hname rfl, ?_⟩
  refine List.forall_mem_cons.mpr ⟨ck_put_ok S.1 S.2.1 S.2.2.2.2 S.2.2.2.1 hT (by decide) (by decide) (by decide +kernel) hname rfl, ?_⟩
  refine List.forall_mem_cons.mpr ⟨ck_put_ok S.1 S.2.1 S.2.2.2.2 S.2.2.2.1 hT (by decide) (by decide) (by decide +kernel) hname rfl, ?_⟩
  refine List.forall_mem_cons.mpr ⟨ck_put_ok S.1 S.2.1 S.2.2.2.2 S.2.2.2.1 hT (by decide) (by decide) (by decide +kernel) hname rfl, ?_⟩
  refine List.forall_mem_cons.mpr ⟨ck_put_ok S.1 S.2.1 S.2.2.2.2 S.2.2.2.1 hT (by decide) (by decide) (by decide +kernel) hname rfl, ?_⟩
  refine List.forall_mem_cons.mpr ⟨ck_get_ok S.1 S.2.1 S.2.2.2.2 S.2.2.2.1 hT (by decide) (by decide) (by decide +kernel), ?_⟩
  refine List.forall_mem_cons.mpr ⟨ck_get_ok S.1 S.2.1 S.2.2.2.2 S.2.2.2.1 hT (by decide) (by decide) (by decide +kernel), ?_⟩
  refine List.forall_mem_cons.mpr ⟨ck_put_ok S.1 S.2.1 S.2.2.2.2 S.2.2.2.1 hT (by decide) (by decide) (by decide +kernel) hname rfl, ?_⟩
  refine List.forall_mem_cons.mpr ⟨ck_get_ok S.1 S.2.1 S.2.2.2.2 S.2.2.2.1 hT (by decide) (by decide) (by decide +kernel), ?_⟩
  refine List.forall_mem_cons.mpr ⟨ck_ist_ok S.1 S.2.1 hT, ?_⟩
  refine List.forall_mem_cons.mpr ⟨ck_get_ok S.1 S.2.1 S.2.2.2.2 S.2.2.2.1 hT (by decide) (by decide) (by decide +kernel), ?_⟩
  exact fun q h => absurd h List.not_mem_nil
