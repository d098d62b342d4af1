/-! What is made: a side, on; the whole object -/
theorem jX6_init (avs : List sw_V) (σ : ck_2) (G : Nat → sw_L → List sw_V → ck_S → Prop) (hf : (zX6_init avs σ).1) (hG : jwX6_init avs σ G) : G 0 (sw_ent 4 avs) [] (σ.1, σ.2, 0, 0) := by
  obtain ⟨k, q, rfl⟩ := zX6_init_of hf
  obtain ⟨E, n⟩ := σ
  obtain ⟨h1, h2, h3, h4, h5⟩ := hf
  have h1 : k < n := h1
  have h2 : q < n := h2
  have h3 : E k = .inl (6, ck_dv 6) := h3
  have hend : ∀ S N, (S, N) = (n_side (pv E q) k q n E, pb3 (pv E q) n + 2) → ∀ L c s, c ≤ 115 → s ≤ 7087 → G 135 L [] (S, N, c, s) := fun S N hSN L c s hc hs => by
    refine hG (fun _ => false) 20 135 _ _ _ ⟨rfl, congrArg Prod.fst hSN, congrArg Prod.snd hSN, hc, hs, ck_nn⟩
  obtain ⟨P, hPP⟩ : ∃ P, P = pv E q := ⟨_, rfl⟩
  have hP : az_ok P := by rw [hPP]; exact h4
  have hq : lok P E q := by rw [hPP]; exact h5
  rw [← hPP] at hend
  have hkq : ¬ q = k := fun z => by
    have := hq.1
    rw [z, h3] at this
    exact absurd this (by decide)
  have hp0 := hP.1
  have hp1 := hP.2.1
  have hp2 := hP.2.2.1
  have hp3 := hP.2.2.2.1
  have hp4 := hP.2.2.2.2.1
  have hp5 := hP.2.2.2.2.2
  have hrm := az_rm_lt hP
  -- turnLeft, limits
  refine hG (fun pc => Nat.beq pc 9) 20 0 _ _ _ (And.intro trivial (And.intro ⟨h1, by show (ob (E k)).1 = 6; rw [h3]; rfl, _, rfl⟩ ?_))
  show G 9 [some (rfv k), some (rfv q), none, none] [] (u1 E k (.inl (6, u1 (ob (E k)).2 8 (.inl 1))), n, 0, 0)
  rw [h3]
  refine hG (fun pc => Nat.beq pc 14) 20 9 _ _ _ (And.intro ⟨h1, by show (ob (u1 E k _ k)).1 = 6; rw [u1_s]; rfl, _, rfl⟩ ?_)
  show G 14 [some (rfv k), some (rfv q), none, none] [] (u1 (u1 E k (.inl (6, u1 (ck_dv 6) 8 (.inl 1)))) k (.inl (6, u1 (ob (u1 E k (.inl (6, u1 (ck_dv 6) 8 (.inl 1))) k)).2 0 (rfv q))), n, 0, 0)
  rw [u1_s, u1_uu]
  obtain ⟨f1, hf1⟩ : ∃ f1, f1 = u1 (u1 (ck_dv 6) 8 (.inl 1)) 0 (rfv q) := ⟨_, rfl⟩
  show G 14 [some (rfv k), some (rfv q), none, none] [] (u1 E k (.inl (6, u1 (u1 (ck_dv 6) 8 (.inl 1)) 0 (rfv q))), n, 0, 0)
  rw [← hf1]
  -- the cells
  obtain ⟨S1, hS1⟩ : ∃ S1, S1 = u1 (u1 E k (.inl (6, f1))) n (.inl (0, ck_dv 0)) := ⟨_, rfl⟩
  have eS1 : S1 q = E q := by rw [hS1, u1_n _ _ (by omega), u1_n _ _ hkq]
  refine hG (fun pc => Nat.beq pc 22) 20 14 _ _ _ (And.intro ⟨Nat.le_of_ble_eq_true rfl, Nat.le_of_ble_eq_true rfl⟩ (And.intro ⟨by show q < n + 1; omega, by show (ob (u1 (u1 E k (.inl (6, f1))) n (.inl (0, ck_dv 0)) q)).1 = 4; rw [← hS1, eS1]; exact hq.1⟩ ?_))
  show G 22 [some (rfv k), some (rfv q), none, none] [(ob (u1 (u1 E k (.inl (6, f1))) n (.inl (0, ck_dv 0)) q)).2 3, rfv n, rfv n] (u1 (u1 E k (.inl (6, f1))) n (.inl (0, ck_dv 0)), n + 1, 1, 4)
  rw [← hS1, eS1, hq.2 3 (by decide)]
  refine hG (fun pc => Nat.beq pc 26) 20 22 _ _ _ (And.intro ⟨by show q < n + 1; omega, by show (ob (S1 q)).1 = 4; rw [eS1]; exact hq.1⟩ ?_)
  show G 26 [some (rfv k), some (rfv q), none, none] [(ob (S1 q)).2 0, .inl (nI (P 3)), rfv n, rfv n] (S1, n + 1, 1, 4)
  rw [eS1, hq.2 0 (by decide)]
  refine hG (fun pc => Nat.beq pc 30) 20 26 _ _ _ (And.intro ⟨by show q < n + 1; omega, by show (ob (S1 q)).1 = 4; rw [eS1]; exact hq.1⟩ ?_)
  show G 30 [some (rfv k), some (rfv q), none, none] [(ob (S1 q)).2 5, .inl (nI (P 0)), .inl (nI (P 3)), rfv n, rfv n] (S1, n + 1, 1, 4)
  rw [eS1, hq.2 5 (by decide)]
  refine hG (fun pc => Nat.beq pc 32) 20 30 _ _ _ ?_
  show G 32 [some (rfv k), some (rfv q), none, none] [.inl (nI (P 3) + nI (P 0) * nI (P 5)), rfv n, rfv n] (S1, n + 1, 1, 4)
  rw [nI_mul, nI_add]
  have hcM : (nI (P 3 + P 0 * P 5)).toNatClampNeg = P 3 + P 0 * P 5 := nI_clamp (by unfold az_rm at hrm; omega)
  have hM : 1 ≤ P 3 + P 0 * P 5 ∧ P 3 + P 0 * P 5 ≤ 2000 := hrm
  refine hG (fun pc => Nat.beq pc 36) 20 32 _ _ _ (And.intro ⟨⟨by show n < n + 1; omega, by show S1 n = _; rw [hS1, u1_s], by rw [hcM], by rw [hcM]; exact hM.1, by rw [hcM]; exact hM.2⟩, (show 1 + 3 ≤ 115 by omega), (show 4 + 6000 ≤ 7087 by omega)⟩ ?_)
  show G 36 [some (rfv k), some (rfv q), some (rfv n), none] [] (n_cells n (n + 1) (nI (P 3 + P 0 * P 5)).toNatClampNeg S1, n + 1 + 3, 4, 6004)
  rw [hcM, hS1, u1_cm _ _ _ (show ¬ k = n by omega), n_cells_cm (by omega) (by omega)]
  obtain ⟨B1, hB1⟩ : ∃ B1, B1 = n_s1 P n E := ⟨_, rfl⟩
  have eB1 : B1 q = E q := by
    rw [hB1]
    unfold n_s1
    rw [n_cells_lt (by omega) (by omega), u1_n _ _ (by omega)]
  have hB1q : lok P B1 q := by
    unfold lok
    rw [eB1]
    exact hq
  show G 36 [some (rfv k), some (rfv q), some (rfv n), none] [] (u1 (n_s1 P n E) k (.inl (6, f1)), n + 4, 4, 6004)
  rw [← hB1]
  -- the flows
  refine hG (fun pc => Nat.beq pc 41) 20 36 _ _ _ (And.intro ⟨by show q < n + 4; omega, by show (ob (u1 B1 k (.inl (6, f1)) q)).1 = 4; rw [u1_n _ _ hkq]; exact hB1q.1⟩ ?_)
  show G 41 [some (rfv k), some (rfv q), some (rfv n), none] [(ob (u1 B1 k (.inl (6, f1)) q)).2 0, rfv k] (u1 B1 k (.inl (6, f1)), n + 4, 4, 6004)
  rw [u1_n _ _ hkq, hB1q.2 0 (by decide)]
  have hc0 : (nI (P 0)).toNatClampNeg = P 0 := nI_clamp (by omega)
  refine hG (fun pc => Nat.beq pc 44) 20 41 _ _ _ (And.intro ⟨nI_pos (by omega), by rw [hc0]; omega, Nat.le_of_ble_eq_true rfl, by show 6004 + (nI (P 0)).toNatClampNeg ≤ 7087; omega⟩ ?_)
  show G 44 [some (rfv k), some (rfv q), some (rfv n), none] [rfv (n + 4), rfv k] (u1 (u1 B1 k (.inl (6, f1))) (n + 4) (.inr (3, (nI (P 0)).toNatClampNeg, .inr (fun _ => none))), n + 5, 5, 6004 + (nI (P 0)).toNatClampNeg)
  have eg : (fun _ : Nat => (none : Option Nat)) = n_g3 n 0 := by
    funext j
    exact (if_neg (Nat.not_lt_zero j)).symm
  rw [hc0, u1_cm _ _ _ (show ¬ k = n + 4 by omega), eg]
  refine hG (fun pc => Nat.beq pc 47) 20 44 _ _ _ (And.intro ⟨by show k < n + 5; omega, by show (ob (u1 _ k _ k)).1 = 6; rw [u1_s]; rfl, _, rfl⟩ ?_)
  show G 47 [some (rfv k), some (rfv q), some (rfv n), none] [] (u1 (u1 (u1 B1 (n + 4) (.inr (3, P 0, .inr (n_g3 n 0)))) k (.inl (6, f1))) k (.inl (6, u1 (ob (u1 (u1 B1 (n + 4) (.inr (3, P 0, .inr (n_g3 n 0)))) k (.inl (6, f1)) k)).2 1 (rfv (n + 4)))), n + 5, 5, 6004 + P 0)
  rw [u1_s, u1_uu]
  obtain ⟨f2, hf2⟩ : ∃ f2, f2 = u1 f1 1 (rfv (n + 4)) := ⟨_, rfl⟩
  show G 47 [some (rfv k), some (rfv q), some (rfv n), none] [] (u1 (u1 B1 (n + 4) (.inr (3, P 0, .inr (n_g3 n 0)))) k (.inl (6, u1 f1 1 (rfv (n + 4)))), n + 5, 5, 6004 + P 0)
  rw [← hf2]
  refine hG (fun pc => Nat.beq pc 49) 20 47 _ _ _ ?_
  show G 49 [some (rfv k), some (rfv q), some (rfv n), some (.inl (nI 0))] [] (u1 (n_fls n (P 0) (nI (P 5)) B1 0) k (.inl (6, f2)), n + 5 + 3 * 0, 5 + 3 * 0, 6004 + P 0 + 21 * 0)
  refine jX6_loop P hP k q n f2 B1 G _ _ hG h1 h2 hkq (by rw [hf2]; exact u1_s _ _ _) hB1q ?_ (P 0) 0 (by omega)
  -- out
  obtain ⟨B2, hB2⟩ : ∃ B2, B2 = n_s2 P n E := ⟨_, rfl⟩
  have eB2 : B2 q = E q := by
    rw [hB2]
    unfold n_s2
    rw [n_fls_lt (by omega) _ (by omega), ← hB1, eB1]
  obtain ⟨L, hL⟩ : ∃ L : sw_L, L = [some (rfv k), some (rfv q), some (rfv n), some (.inl (nI (P 0)))] := ⟨_, rfl⟩
  have e2 : n_fls n (P 0) (nI (P 5)) B1 (P 0) = B2 := by rw [hB2, hB1]; rfl
  rw [e2]
  obtain ⟨b1, hb1⟩ : ∃ b1, b1 = pb1 P n := ⟨_, rfl⟩
  have hb1' : b1 = n + 5 + 3 * P 0 := hb1
  rw [← hb1']
  obtain ⟨c1, hc1⟩ : ∃ c1, c1 = 5 + 3 * P 0 := ⟨_, rfl⟩
  obtain ⟨s1, hs1⟩ : ∃ s1, s1 = 6004 + P 0 + 21 * P 0 := ⟨_, rfl⟩
  rw [← hc1, ← hs1]
  have hlf : ∀ (S : Nat → ck_E) (N : Nat), q < N → S q = E q → (zX4_longestFrame [.inr (some (0, q))] (S, N)).1 ∧ gi ((ob (S q)).2 1) + 3 = nI (P 1 + 3) := fun S N hN hS => by
    have e1 : (ob (S q)).2 1 = .inl (nI (P 1)) := by rw [hS]; exact hq.2 1 (by decide)
    refine ⟨⟨hN, by show (ob (S q)).1 = 4; rw [hS]; exact hq.1, by show (ob (S q)).2 1 = .inl (gi ((ob (S q)).2 1)); rw [e1]; rfl⟩, ?_⟩
    rw [e1]
    exact nI_add (P 1) 3
  have hc13 : (nI (P 1 + 3)).toNatClampNeg = P 1 + 3 := nI_clamp (by omega)
  have hc2 : (nI (P 2)).toNatClampNeg = P 2 := nI_clamp (by omega)
  have hc4 : (nI (P 4)).toNatClampNeg = P 4 := nI_clamp (by omega)
  obtain ⟨T, hT⟩ : ∃ T, T = u1 (u1 B2 k (.inl (6, f2))) b1 (.inl (3, ck_dv 3)) := ⟨_, rfl⟩
  have eT : T q = E q := by rw [hT, u1_n _ _ (by omega), u1_n _ _ hkq, eB2]
  refine hG (fun pc => Nat.beq pc 91) 20 82 _ _ _ (And.intro ⟨by show c1 + 1 ≤ 115; omega, by show s1 + 3 ≤ 7087; omega⟩ (And.intro ⟨by show q < b1 + 1; omega, by show (ob (u1 (u1 B2 k (.inl (6, f2))) b1 (.inl (3, ck_dv 3)) q)).1 = 4; rw [← hT, eT]; exact hq.1⟩ ?_))
  show G 91 [some (rfv k), some (rfv q), some (rfv n), some (.inl (nI (P 0)))] [(ob (u1 (u1 B2 k (.inl (6, f2))) b1 (.inl (3, ck_dv 3)) q)).2 2, rfv b1, rfv b1, rfv k] (u1 (u1 B2 k (.inl (6, f2))) b1 (.inl (3, ck_dv 3)), b1 + 1, c1 + 1, s1 + 3)
  rw [← hT, eT, hq.2 2 (by decide)]
  refine hG (fun pc => Nat.beq pc 95) 20 91 _ _ _ (And.intro ⟨(hlf T (b1 + 1) (by omega) eT).1, by show c1 + 1 + 0 ≤ 115; omega, by show s1 + 3 + 0 ≤ 7087; omega⟩ ?_)
  show G 95 [some (rfv k), some (rfv q), some (rfv n), some (.inl (nI (P 0)))] [.inl (gi ((ob (T q)).2 1) + 3), .inl (nI (P 2)), rfv b1, rfv b1, rfv k] (T, b1 + 1, c1 + 1, s1 + 3)
  rw [(hlf T (b1 + 1) (by omega) eT).2]
  refine hG (fun pc => Nat.beq pc 98) 20 95 _ _ _ (And.intro ⟨⟨Nat.lt_succ_self b1, by show T b1 = _; rw [hT, u1_s], by rw [hc2], by rw [hc2]; omega, nI_pos (by omega), by rw [hc13]; omega⟩, by show c1 + 1 + 41 ≤ 115; omega, by show s1 + 3 + 440 ≤ 7087; omega⟩ ?_)
  show G 98 [some (rfv k), some (rfv q), some (rfv n), some (.inl (nI (P 0)))] [rfv b1, rfv k] (n_fb b1 (b1 + 1) (nI (P 2)).toNatClampNeg (nI (P 1 + 3)).toNatClampNeg (nI (P 2)).toNatClampNeg T, b1 + 1 + 1 + 2 * (nI (P 2)).toNatClampNeg, c1 + 1 + 41, s1 + 3 + 440)
  rw [hc2, hc13, hT, u1_cm _ _ _ (show ¬ k = b1 by omega), n_fb_cm (by omega) (by omega)]
  obtain ⟨B3, hB3⟩ : ∃ B3, B3 = n_s3 P n E := ⟨_, rfl⟩
  have e3 : n_fb b1 (b1 + 1) (P 2) (P 1 + 3) (P 2) (u1 B2 b1 (.inl (3, ck_dv 3))) = B3 := by rw [hB3, hB2, hb1]; rfl
  have eB3 : B3 q = E q := by
    rw [← e3, n_fb_lt (by omega) (by omega), u1_n _ _ (by omega), eB2]
  rw [e3]
  obtain ⟨b2, hb2⟩ : ∃ b2, b2 = pb2 P n := ⟨_, rfl⟩
  have hb2' : b1 + 1 + 1 + 2 * P 2 = b2 := by rw [hb2]; unfold pb2; rw [← hb1]
  rw [hb2']
  refine hG (fun pc => Nat.beq pc 101) 20 98 _ _ _ (And.intro ⟨by show k < b2; omega, by show (ob (u1 _ k _ k)).1 = 6; rw [u1_s]; rfl, _, rfl⟩ ?_)
  show G 101 [some (rfv k), some (rfv q), some (rfv n), some (.inl (nI (P 0)))] [] (u1 (u1 B3 k (.inl (6, f2))) k (.inl (6, u1 (ob (u1 B3 k (.inl (6, f2)) k)).2 2 (rfv b1))), b2, c1 + 1 + 41, s1 + 3 + 440)
  rw [u1_s, u1_uu]
  obtain ⟨f3, hf3⟩ : ∃ f3, f3 = u1 f2 2 (rfv b1) := ⟨_, rfl⟩
  show G 101 [some (rfv k), some (rfv q), some (rfv n), some (.inl (nI (P 0)))] [] (u1 B3 k (.inl (6, u1 f2 2 (rfv b1))), b2, c1 + 1 + 41, s1 + 3 + 440)
  rw [← hf3]
  -- line
  obtain ⟨U, hU⟩ : ∃ U, U = u1 (u1 B3 k (.inl (6, f3))) b2 (.inl (3, ck_dv 3)) := ⟨_, rfl⟩
  have eU : U q = E q := by rw [hU, u1_n _ _ (by omega), u1_n _ _ hkq, eB3]
  refine hG (fun pc => Nat.beq pc 110) 20 101 _ _ _ (And.intro ⟨by show c1 + 1 + 41 + 1 ≤ 115; omega, by show s1 + 3 + 440 + 3 ≤ 7087; omega⟩ (And.intro ⟨by show q < b2 + 1; omega, by show (ob (u1 (u1 B3 k (.inl (6, f3))) b2 (.inl (3, ck_dv 3)) q)).1 = 4; rw [← hU, eU]; exact hq.1⟩ ?_))
  show G 110 [some (rfv k), some (rfv q), some (rfv n), some (.inl (nI (P 0)))] [(ob (u1 (u1 B3 k (.inl (6, f3))) b2 (.inl (3, ck_dv 3)) q)).2 4, rfv b2, rfv b2, rfv k] (u1 (u1 B3 k (.inl (6, f3))) b2 (.inl (3, ck_dv 3)), b2 + 1, c1 + 1 + 41 + 1, s1 + 3 + 440 + 3)
  rw [← hU, eU, hq.2 4 (by decide)]
  refine hG (fun pc => Nat.beq pc 114) 20 110 _ _ _ (And.intro ⟨(hlf U (b2 + 1) (by omega) eU).1, by show c1 + 1 + 41 + 1 + 0 ≤ 115; omega, by show s1 + 3 + 440 + 3 + 0 ≤ 7087; omega⟩ ?_)
  show G 114 [some (rfv k), some (rfv q), some (rfv n), some (.inl (nI (P 0)))] [.inl (gi ((ob (U q)).2 1) + 3), .inl (nI (P 4)), rfv b2, rfv b2, rfv k] (U, b2 + 1, c1 + 1 + 41 + 1, s1 + 3 + 440 + 3)
  rw [(hlf U (b2 + 1) (by omega) eU).2]
  refine hG (fun pc => Nat.beq pc 117) 20 114 _ _ _ (And.intro ⟨⟨Nat.lt_succ_self b2, by show U b2 = _; rw [hU, u1_s], by rw [hc4], by rw [hc4]; omega, nI_pos (by omega), by rw [hc13]; omega⟩, by show c1 + 1 + 41 + 1 + 41 ≤ 115; omega, by show s1 + 3 + 440 + 3 + 440 ≤ 7087; omega⟩ ?_)
  show G 117 [some (rfv k), some (rfv q), some (rfv n), some (.inl (nI (P 0)))] [rfv b2, rfv k] (n_fb b2 (b2 + 1) (nI (P 4)).toNatClampNeg (nI (P 1 + 3)).toNatClampNeg (nI (P 4)).toNatClampNeg U, b2 + 1 + 1 + 2 * (nI (P 4)).toNatClampNeg, c1 + 1 + 41 + 1 + 41, s1 + 3 + 440 + 3 + 440)
  rw [hc4, hc13, hU, u1_cm _ _ _ (show ¬ k = b2 by omega), n_fb_cm (by omega) (by omega)]
  obtain ⟨B4, hB4⟩ : ∃ B4, B4 = n_s4 P n E := ⟨_, rfl⟩
  have e4 : n_fb b2 (b2 + 1) (P 4) (P 1 + 3) (P 4) (u1 B3 b2 (.inl (3, ck_dv 3))) = B4 := by rw [hB4, hB3, hb2]; rfl
  have eB4 : B4 q = E q := by
    rw [← e4, n_fb_lt (by omega) (by omega), u1_n _ _ (by omega), eB3]
  rw [e4]
  obtain ⟨b3, hb3⟩ : ∃ b3, b3 = pb3 P n := ⟨_, rfl⟩
  have hb3' : b2 + 1 + 1 + 2 * P 4 = b3 := by rw [hb3]; unfold pb3; rw [← hb2]
  rw [hb3']
  refine hG (fun pc => Nat.beq pc 120) 20 117 _ _ _ (And.intro ⟨by show k < b3; omega, by show (ob (u1 _ k _ k)).1 = 6; rw [u1_s]; rfl, _, rfl⟩ ?_)
  show G 120 [some (rfv k), some (rfv q), some (rfv n), some (.inl (nI (P 0)))] [] (u1 (u1 B4 k (.inl (6, f3))) k (.inl (6, u1 (ob (u1 B4 k (.inl (6, f3)) k)).2 3 (rfv b2))), b3, c1 + 1 + 41 + 1 + 41, s1 + 3 + 440 + 3 + 440)
  rw [u1_s, u1_uu]
  obtain ⟨f4, hf4⟩ : ∃ f4, f4 = u1 f3 3 (rfv b2) := ⟨_, rfl⟩
  show G 120 [some (rfv k), some (rfv q), some (rfv n), some (.inl (nI (P 0)))] [] (u1 B4 k (.inl (6, u1 f3 3 (rfv b2))), b3, c1 + 1 + 41 + 1 + 41, s1 + 3 + 440 + 3 + 440)
  rw [← hf4]
  -- draft
  obtain ⟨Y, hY⟩ : ∃ Y, Y = u1 (u1 B4 k (.inl (6, f4))) b3 (.inl (2, ck_dv 2)) := ⟨_, rfl⟩
  have eY : Y q = E q := by rw [hY, u1_n _ _ (by omega), u1_n _ _ hkq, eB4]
  refine hG (fun pc => Nat.beq pc 126) 20 120 _ _ _ (And.intro ⟨by show c1 + 1 + 41 + 1 + 41 + 1 ≤ 115; omega, by show s1 + 3 + 440 + 3 + 440 + 2 ≤ 7087; omega⟩ ?_)
  show G 126 [some (rfv k), some (rfv q), some (rfv n), some (.inl (nI (P 0)))] [rfv q, rfv b3, rfv b3, rfv k] (u1 (u1 B4 k (.inl (6, f4))) b3 (.inl (2, ck_dv 2)), b3 + 1, c1 + 1 + 41 + 1 + 41 + 1, s1 + 3 + 440 + 3 + 440 + 2)
  rw [← hY]
  refine hG (fun pc => Nat.beq pc 129) 20 126 _ _ _ (And.intro ⟨(hlf Y (b3 + 1) (by omega) eY).1, by show c1 + 1 + 41 + 1 + 41 + 1 + 0 ≤ 115; omega, by show s1 + 3 + 440 + 3 + 440 + 2 + 0 ≤ 7087; omega⟩ ?_)
  show G 129 [some (rfv k), some (rfv q), some (rfv n), some (.inl (nI (P 0)))] [.inl (gi ((ob (Y q)).2 1) + 3), rfv b3, rfv b3, rfv k] (Y, b3 + 1, c1 + 1 + 41 + 1 + 41 + 1, s1 + 3 + 440 + 3 + 440 + 2)
  rw [(hlf Y (b3 + 1) (by omega) eY).2]
  refine hG (fun pc => Nat.beq pc 132) 20 129 _ _ _ (And.intro ⟨⟨Nat.lt_succ_self b3, by show Y b3 = _; rw [hY, u1_s], nI_pos (by omega), by rw [hc13]; omega⟩, by show c1 + 1 + 41 + 1 + 41 + 1 + 1 ≤ 115; omega, by show s1 + 3 + 440 + 3 + 440 + 2 + 19 ≤ 7087; omega⟩ ?_)
  show G 132 [some (rfv k), some (rfv q), some (rfv n), some (.inl (nI (P 0)))] [rfv b3, rfv k] (n_frame b3 (b3 + 1) (nI (P 1 + 3)).toNatClampNeg Y, b3 + 1 + 1, c1 + 1 + 41 + 1 + 41 + 1 + 1, s1 + 3 + 440 + 3 + 440 + 2 + 19)
  rw [hc13, hY, u1_cm _ _ _ (show ¬ k = b3 by omega), n_frame_cm (by omega) (by omega)]
  have e5 : n_frame b3 (b3 + 1) (P 1 + 3) (u1 B4 b3 (.inl (2, ck_dv 2))) = n_s5 P n E := by rw [hB4, hb3]; rfl
  rw [e5]
  refine hG (fun pc => Nat.beq pc 135) 20 132 _ _ _ (And.intro ⟨by show k < b3 + 1 + 1; omega, by show (ob (u1 _ k _ k)).1 = 6; rw [u1_s]; rfl, _, rfl⟩ ?_)
  show G 135 [some (rfv k), some (rfv q), some (rfv n), some (.inl (nI (P 0)))] [] (u1 (u1 (n_s5 P n E) k (.inl (6, f4))) k (.inl (6, u1 (ob (u1 (n_s5 P n E) k (.inl (6, f4)) k)).2 4 (rfv b3))), b3 + 2, c1 + 1 + 41 + 1 + 41 + 1 + 1, s1 + 3 + 440 + 3 + 440 + 2 + 19)
  rw [u1_s, u1_uu]
  refine hend _ _ ?_ _ _ _ (by omega) (by omega)
  rw [hb3, hf4, hf3, hf2, hf1, hb2, hb1]
  rfl
set_option maxRecDepth 100000 in
theorem qX6_init {l : Launch} {b : Nat} {ca : Nat → ClassId} {D : va_G} : ck_met l b ca D yX6_init cX6_init 4 none { frames := 3, cells := 115, slots := 7087, locals := 65 } 2 zX6_init := by
  refine ck_meth (by decide) (by first | exact Or.inl rfl | exact Or.inr rfl) (by decide) jkX6_init cnX6_in ?_ (fun avs σ G hlen hf hG => jX6_init avs σ G hf hG)
  intro p e s m args below meth c Qw S hname hT hnw
  refine List.forall_mem_cons.mpr ⟨ck_obj_ok S.1 S.2.1 S.2.2.1 S.2.2.2.2 S.2.2.2.1 (by decide +kernel) (by decide +kernel) (by decide +kernel) ⟨by decide, by decide⟩, ?_⟩
  refine List.forall_mem_cons.mpr ⟨ck_put_ok S.1 S.2.1 S.2.2.2.2 S.2.2.2.1 hT (by decide) (by decide) (by decide +kernel) hname rfl, ?_⟩
  refine List.forall_mem_cons.mpr ⟨ck_put_ok S.1 S.2.1 S.2.2.2.2 S.2.2.2.1 hT (by decide) (by decide) (by decide +kernel) hname rfl, ?_⟩
  refine List.forall_mem_cons.mpr ⟨ck_new_ok S.1 S.2.1 S.2.2.2.2 S.2.2.2.1 hT (by decide) (by decide +kernel) (by decide +kernel) (by decide +kernel), ?_⟩
  refine List.forall_mem_cons.mpr ⟨ck_get_ok S.1 S.2.1 S.2.2.2.2 S.2.2.2.1 hT (by decide) (by decide) (by decide +kernel), ?_⟩
  refine List.forall_mem_cons.mpr ⟨ck_get_ok S.1 S.2.1 S.2.2.2.2 S.2.2.2.1 hT (by decide) (by decide) (by decide +kernel), ?_⟩
  refine List.forall_mem_cons.mpr ⟨ck_get_ok S.1 S.2.1 S.2.2.2.2 S.2.2.2.1 hT (by decide) (by decide) (by decide +kernel), ?_⟩
  refine List.forall_mem_cons.mpr ⟨ck_callI S hT hnw (rm' := { frames := 1, cells := 3, slots := 6000, locals := 21 }) qX0_init 32 (fun avs σ h => zX0_init_ob h) ⟨by decide +kernel, by decide +kernel, by decide +kernel, by decide +kernel⟩ ⟨by decide, by decide, by decide +kernel⟩ rfl ⟨by decide, by decide⟩, ?_⟩
  refine List.forall_mem_cons.mpr ⟨ck_newq_ok (C := "StreamWires$Flow") (t0 := 2) S.1 S.2.1 S.2.2.2.2 S.2.2.2.1 hT (by decide +kernel) hnw.2.1 rfl, ?_⟩
  refine List.forall_mem_cons.mpr ⟨ck_put_ok S.1 S.2.1 S.2.2.2.2 S.2.2.2.1 hT (by decide) (by decide) (by decide +kernel) hname rfl, ?_⟩
  refine List.forall_mem_cons.mpr ⟨ck_get_ok S.1 S.2.1 S.2.2.2.2 S.2.2.2.1 hT (by decide) (by decide) (by decide +kernel), ?_⟩
  refine List.forall_mem_cons.mpr ⟨ck_len_ok S.1 S.2.1 hT, ?_⟩
  refine List.forall_mem_cons.mpr ⟨ck_new_ok S.1 S.2.1 S.2.2.2.2 S.2.2.2.1 hT (by decide) (by decide +kernel) (by decide +kernel) (by decide +kernel), ?_⟩
  refine List.forall_mem_cons.mpr ⟨ck_callI S hT hnw (rm' := { frames := 2, cells := 2, slots := 8, locals := 41 }) qX1_init 41 (fun avs σ h => zX1_init_ob h) ⟨by decide +kernel, by decide +kernel, by decide +kernel, by decide +kernel⟩ ⟨by decide, by decide, by decide +kernel⟩ rfl ⟨by decide, by decide⟩, ?_⟩
  refine List.forall_mem_cons.mpr ⟨ck_ast_ok S.1 S.2.1 hT, ?_⟩
  refine List.forall_mem_cons.mpr ⟨ck_new_ok S.1 S.2.1 S.2.2.2.2 S.2.2.2.1 hT (by decide) (by decide +kernel) (by decide +kernel) (by decide +kernel), ?_⟩
  refine List.forall_mem_cons.mpr ⟨ck_get_ok S.1 S.2.1 S.2.2.2.2 S.2.2.2.1 hT (by decide) (by decide) (by decide +kernel), ?_⟩
  refine List.forall_mem_cons.mpr ⟨ck_callV S hT hnw (rm' := { frames := 0, cells := 0, slots := 0, locals := 0 }) qX4_longestFrame 49 4 (by decide) (fun avs σ h => zX4_longestFrame_ob h) ⟨by decide +kernel, by decide +kernel, by decide +kernel, by decide +kernel, by decide +kernel⟩ ⟨rfl, by decide, by decide, by decide +kernel⟩ ⟨by decide, by decide⟩, ?_⟩
  refine List.forall_mem_cons.mpr ⟨ck_callI S hT hnw (rm' := { frames := 2, cells := 41, slots := 440, locals := 42 }) qX3_init 53 (fun avs σ h => zX3_init_ob h) ⟨by decide +kernel, by decide +kernel, by decide +kernel, by decide +kernel⟩ ⟨by decide, by decide, by decide +kernel⟩ rfl ⟨by decide, by decide⟩, ?_⟩
  refine List.forall_mem_cons.mpr ⟨ck_put_ok S.1 S.2.1 S.2.2.2.2 S.2.2.2.1 hT (by decide) (by decide) (by decide +kernel) hname rfl, ?_⟩
  refine List.forall_mem_cons.mpr ⟨ck_get_ok S.1 S.2.1 S.2.2.2.2 S.2.2.2.1 hT (by decide) (by decide) (by decide +kernel), ?_⟩
  refine List.forall_mem_cons.mpr ⟨ck_put_ok S.1 S.2.1 S.2.2.2.2 S.2.2.2.1 hT (by decide) (by decide) (by decide +kernel) hname rfl, ?_⟩
  refine List.forall_mem_cons.mpr ⟨ck_new_ok S.1 S.2.1 S.2.2.2.2 S.2.2.2.1 hT (by decide) (by decide +kernel) (by decide +kernel) (by decide +kernel), ?_⟩
  refine List.forall_mem_cons.mpr ⟨ck_callI S hT hnw (rm' := { frames := 1, cells := 1, slots := 19, locals := 21 }) qX2_init 68 (fun avs σ h => zX2_init_ob h) ⟨by decide +kernel, by decide +kernel, by decide +kernel, by decide +kernel⟩ ⟨by decide, by decide, by decide +kernel⟩ rfl ⟨by decide, by decide⟩, ?_⟩
  refine List.forall_mem_cons.mpr ⟨ck_put_ok S.1 S.2.1 S.2.2.2.2 S.2.2.2.1 hT (by decide) (by decide) (by decide +kernel) hname rfl, ?_⟩
  exact fun q h => absurd h List.not_mem_nil
/-! the whole object -/
def n_wP (a0 a1 a2 a3 a4 : Int32) : Nat → sw_V := n_lim (wit7 a0 1 8) (wit7 a1 1 16) (wit7 a2 1 15) (wit7 a3 4 400) (wit7 a4 1 20)
def n_w1 (n : Nat) (f : Nat → sw_V) (E : Nat → ck_E) : Nat → ck_E := u1 E n (.inl (4, f))
def n_w2 (P : az_P) (n : Nat) (f : Nat → sw_V) (E : Nat → ck_E) : Nat → ck_E := n_side P (n + 1) n (n + 2) (u1 (n_w1 n f E) (n + 1) (.inl (6, ck_dv 6)))
def wb2 (P : az_P) (n : Nat) : Nat := pb3 P (n + 2) + 2
def n_w3 (P : az_P) (n : Nat) (f : Nat → sw_V) (E : Nat → ck_E) : Nat → ck_E := n_side P (wb2 P n) n (wb2 P n + 1) (u1 (n_w2 P n f E) (wb2 P n) (.inl (6, ck_dv 6)))
def wb3 (P : az_P) (n : Nat) : Nat := pb3 P (wb2 P n + 1) + 2
def n_wv (P : az_P) (n : Nat) : Nat → sw_V := u1 (u1 (ck_dv 7) 0 (rfv (n + 1))) 1 (rfv (wb2 P n))
def n_wi (P : az_P) (k n : Nat) (f : Nat → sw_V) (E : Nat → ck_E) : Nat → ck_E := u1 (n_w3 P n f E) k (.inl (7, n_wv P n))
def pw (f : Nat → sw_V) : az_P := fun j => (gi (f j)).toNatClampNeg
def zX7_init : ck_F := fun avs σ => match avs with
  | [.inr (some (0, k)), .inl a0, .inl a1, .inl a2, .inl a3, .inl a4] => (k < σ.2 ∧ σ.1 k = .inl (7, ck_dv 7) ∧ az_ok (pw (n_wP a0 a1 a2 a3 a4)) ∧ (∀ j, j < 6 → n_wP a0 a1 a2 a3 a4 j = .inl (nI (pw (n_wP a0 a1 a2 a3 a4) j))) ∧ ¬ 2 * wit7 a0 1 8 = 0, none, (n_wi (pw (n_wP a0 a1 a2 a3 a4)) k σ.2 (n_wP a0 a1 a2 a3 a4) σ.1, wb3 (pw (n_wP a0 a1 a2 a3 a4)) σ.2))
  | _ => (False, none, σ)
theorem zX7_init_of {avs : List sw_V} {σ : ck_2} (h : (zX7_init avs σ).1) : ∃ k a0 a1 a2 a3 a4, avs = [.inr (some (0, k)), .inl a0, .inl a1, .inl a2, .inl a3, .inl a4] := by
  unfold zX7_init at h
  split at h
  · exact ⟨_, _, _, _, _, _, rfl⟩
  · exact h.elim
theorem zX7_init_ob {avs : List sw_V} {σ : ck_2} (h : (zX7_init avs σ).1) : ∃ k tl, avs = .inr (some (0, k)) :: tl := by
  obtain ⟨k, _, _, _, _, _, rfl⟩ := zX7_init_of h
  exact ⟨k, _, rfl⟩
def jcX7_init : gs_C ck_S := [(2, 1, 1, ck_obj), (3, 7, 0, ck_new 233 14210 4), (2, 9, 6, ck_cf 233 14210 0 0 zX4_init), (3, 12, 0, ck_new 233 14210 6), (2, 14, 2, ck_cf 233 14210 115 7087 zX6_init), (7, 17, 2, ck_put 7 0), (7, 23, 2, ck_put 7 1)]
abbrev jqX7_init (avs : List sw_V) (σ : ck_2) : Option sw_V → ck_S → Prop := fun r σ' => r = (zX7_init avs σ).2.1 ∧ σ'.1 = (zX7_init avs σ).2.2.1 ∧ σ'.2.1 = (zX7_init avs σ).2.2.2 ∧ σ'.2.2.1 ≤ 233 ∧ σ'.2.2.2 ≤ 14210 ∧ ((none : Option FieldType) = none ↔ r = none)
abbrev jwX7_init (avs : List sw_V) (σ : ck_2) (G : Nat → sw_L → List sw_V → ck_S → Prop) : Prop := ∀ stop k pc L st σ', gs_ws jcX7_init jsX7_init 46 jtX7_init (jqX7_init avs σ) G stop k pc L st σ' → G pc L st σ'
theorem n_fls_cm {n S k : Nat} {v : Int32} {X : ck_E} {B : Nat → ck_E} (h2 : k < n) : ∀ i, n_fls n S v (u1 B k X) i = u1 (n_fls n S v B i) k X
  | 0 => u1_cm _ _ _ (by omega)
  | i + 1 => by
    show u1 (n_flow (n + 5 + 3 * i) (n + 5 + 3 * i + 1) (rfv n) v (u1 (n_fls n S v (u1 B k X) i) (n + 5 + 3 * i) _)) (n + 4) _ = u1 (u1 (n_flow (n + 5 + 3 * i) (n + 5 + 3 * i + 1) (rfv n) v (u1 (n_fls n S v B i) (n + 5 + 3 * i) _)) (n + 4) _) k X
    rw [n_fls_cm h2 i, u1_cm _ _ _ (show ¬ k = n + 5 + 3 * i by omega), n_flow_cm (by omega) (by omega) (by omega), u1_cm _ _ _ (show ¬ k = n + 4 by omega)]
theorem pb_lt (P : az_P) (n : Nat) : n + 5 ≤ pb1 P n ∧ pb1 P n + 2 ≤ pb2 P n ∧ pb2 P n + 2 ≤ pb3 P n := by
  unfold pb3 pb2 pb1
  omega
theorem n_side_cm {P : az_P} {a q n k : Nat} {X : ck_E} {B : Nat → ck_E} (h1 : ¬ k = a) (h2 : k < n) : n_side P a q n (u1 B k X) = u1 (n_side P a q n B) k X := by
  have hb := pb_lt P n
  unfold n_side n_s5 n_s4 n_s3 n_s2 n_s1
  rw [u1_cm _ _ _ (show ¬ k = n by omega), n_cells_cm (by omega) (by omega), n_fls_cm h2, u1_cm _ _ _ (show ¬ k = pb1 P n by omega), n_fb_cm (a := pb1 P n) (k := k) (by omega) (by omega), u1_cm _ _ _ (show ¬ k = pb2 P n by omega), n_fb_cm (a := pb2 P n) (k := k) (by omega) (by omega), u1_cm _ _ _ (show ¬ k = pb3 P n by omega), n_frame_cm (a := pb3 P n) (k := k) (by omega) (by omega), u1_cm _ _ _ h1]
theorem n_side_lt {P : az_P} {a q n x : Nat} {B : Nat → ck_E} (h1 : ¬ x = a) (h2 : x < n) : n_side P a q n B x = B x := by
  have hb := pb_lt P n
  unfold n_side n_s5 n_s4 n_s3 n_s2 n_s1
  rw [u1_n _ _ h1, n_frame_lt (by omega) (by omega), u1_n _ _ (by omega), n_fb_lt (by omega) (by omega), u1_n _ _ (by omega), n_fb_lt (by omega) (by omega), u1_n _ _ (by omega), n_fls_lt (by omega) _ (by omega), n_cells_lt (by omega) (by omega), u1_n _ _ (by omega)]
theorem jX7_init (avs : List sw_V) (σ : ck_2) (G : Nat → sw_L → List sw_V → ck_S → Prop) (hf : (zX7_init avs σ).1) (hG : jwX7_init avs σ G) : G 0 (sw_ent 7 avs) [] (σ.1, σ.2, 0, 0) := by
  obtain ⟨k, a0, a1, a2, a3, a4, rfl⟩ := zX7_init_of hf
  obtain ⟨E, n⟩ := σ
  obtain ⟨h1, h2, h3, h4, h5⟩ := hf
  have h1 : k < n := h1
  have h2 : E k = .inl (7, ck_dv 7) := h2
  obtain ⟨f, hff⟩ : ∃ f, f = n_wP a0 a1 a2 a3 a4 := ⟨_, rfl⟩
  obtain ⟨P, hPP⟩ : ∃ P, P = pw f := ⟨_, rfl⟩
  have hend : ∀ S N, (S, N) = (n_wi P k n f E, wb3 P n) → ∀ L c s, c ≤ 233 → s ≤ 14210 → G 46 L [] (S, N, c, s) := fun S N hSN L c s hc hs => by
    rw [hPP, hff] at hSN
    refine hG (fun _ => false) 20 46 _ _ _ ⟨rfl, congrArg Prod.fst hSN, congrArg Prod.snd hSN, hc, hs, ck_nn⟩
  rw [← hff, ← hPP] at h3 h4
  have hlok : ∀ (S : Nat → ck_E) (x : Nat), S x = .inl (4, f) → pv S x = P ∧ lok P S x := fun S x hS => by
    refine ⟨?_, ?_, fun j hj => ?_⟩
    · funext j
      unfold pv
      rw [hS, hPP]
      rfl
    · rw [hS]
      rfl
    · rw [hS]
      exact h4 j hj
  refine hG (fun pc => Nat.beq pc 18) 30 0 _ _ _ (And.intro trivial (And.intro ⟨Nat.le_of_ble_eq_true rfl, Nat.le_of_ble_eq_true rfl⟩ (And.intro ⟨⟨Nat.lt_succ_self n, by show u1 E n _ n = _; rw [u1_s], h5⟩, Nat.le_of_ble_eq_true rfl, Nat.le_of_ble_eq_true rfl⟩ ?_)))
  show G 18 [some (rfv k), some (.inl a0), some (.inl a1), some (.inl a2), some (.inl a3), some (.inl a4), none] [rfv n] (u1 (u1 E n (.inl (4, ck_dv 4))) n (.inl (4, n_wP a0 a1 a2 a3 a4)), n + 1, 1, 6)
  rw [u1_uu, ← hff]
  obtain ⟨B1, hB1⟩ : ∃ B1, B1 = n_w1 n f E := ⟨_, rfl⟩
  have e1 : u1 E n (.inl (4, f)) = B1 := by rw [hB1]; rfl
  rw [e1]
  have eB1n : B1 n = .inl (4, f) := by rw [← e1, u1_s]
  have eB1k : B1 k = .inl (7, ck_dv 7) := by rw [← e1, u1_n _ _ (by omega), h2]
  have l1 := hlok (u1 B1 (n + 1) (.inl (6, ck_dv 6))) n (by rw [u1_n _ _ (by omega), eB1n])
  refine hG (fun pc => Nat.beq pc 30) 30 18 _ _ _ (And.intro ⟨(show 1 + 1 ≤ 233 by omega), (show 6 + 15 ≤ 14210 by omega)⟩ (And.intro ⟨⟨Nat.lt_succ_self (n + 1), by show n < n + 1 + 1; omega, by show u1 B1 (n + 1) _ (n + 1) = _; rw [u1_s], by show az_ok (pv (u1 B1 (n + 1) (.inl (6, ck_dv 6))) n); rw [l1.1]; exact h3, by show lok (pv (u1 B1 (n + 1) (.inl (6, ck_dv 6))) n) (u1 B1 (n + 1) (.inl (6, ck_dv 6))) n; rw [l1.1]; exact l1.2⟩, (show 2 + 115 ≤ 233 by omega), (show 21 + 7087 ≤ 14210 by omega)⟩ ?_))
  show G 30 [some (rfv k), some (.inl a0), some (.inl a1), some (.inl a2), some (.inl a3), some (.inl a4), some (rfv n)] [rfv (n + 1), rfv k] (n_side (pv (u1 B1 (n + 1) (.inl (6, ck_dv 6))) n) (n + 1) n (n + 2) (u1 B1 (n + 1) (.inl (6, ck_dv 6))), pb3 (pv (u1 B1 (n + 1) (.inl (6, ck_dv 6))) n) (n + 2) + 2, 117, 7108)
  rw [l1.1]
  obtain ⟨B2, hB2⟩ : ∃ B2, B2 = n_w2 P n f E := ⟨_, rfl⟩
  have e2 : n_side P (n + 1) n (n + 2) (u1 B1 (n + 1) (.inl (6, ck_dv 6))) = B2 := by rw [hB2, hB1]; rfl
  have eB2n : B2 n = .inl (4, f) := by rw [← e2, n_side_lt (by omega) (by omega), u1_n _ _ (by omega), eB1n]
  have eB2k : B2 k = .inl (7, ck_dv 7) := by rw [← e2, n_side_lt (by omega) (by omega), u1_n _ _ (by omega), eB1k]
  rw [e2]
  have hpb := pb_lt P (n + 2)
  obtain ⟨w, hw⟩ : ∃ w, w = wb2 P n := ⟨_, rfl⟩
  have hw' : w = pb3 P (n + 2) + 2 := hw
  rw [← hw']
  refine hG (fun pc => Nat.beq pc 33) 30 30 _ _ _ (And.intro ⟨by show k < w; omega, by show (ob (B2 k)).1 = 7; rw [eB2k]; rfl, _, rfl⟩ ?_)
  show G 33 [some (rfv k), some (.inl a0), some (.inl a1), some (.inl a2), some (.inl a3), some (.inl a4), some (rfv n)] [] (u1 B2 k (.inl (7, u1 (ob (B2 k)).2 0 (rfv (n + 1)))), w, 117, 7108)
  rw [eB2k]
  obtain ⟨X, hX⟩ : ∃ X : ck_E, X = .inl (7, u1 (ck_dv 7) 0 (rfv (n + 1))) := ⟨_, rfl⟩
  show G 33 [some (rfv k), some (.inl a0), some (.inl a1), some (.inl a2), some (.inl a3), some (.inl a4), some (rfv n)] [] (u1 B2 k (.inl (7, u1 (ck_dv 7) 0 (rfv (n + 1)))), w, 117, 7108)
  rw [← hX]
  have l2 := hlok (u1 (u1 B2 k X) w (.inl (6, ck_dv 6))) n (by rw [u1_n _ _ (by omega), u1_n _ _ (by omega), eB2n])
  refine hG (fun pc => Nat.beq pc 43) 30 33 _ _ _ (And.intro ⟨(show 117 + 1 ≤ 233 by omega), (show 7108 + 15 ≤ 14210 by omega)⟩ (And.intro ⟨⟨Nat.lt_succ_self w, by show n < w + 1; omega, by show u1 _ w _ w = _; rw [u1_s], by show az_ok (pv (u1 (u1 B2 k X) w (.inl (6, ck_dv 6))) n); rw [l2.1]; exact h3, by show lok (pv (u1 (u1 B2 k X) w (.inl (6, ck_dv 6))) n) (u1 (u1 B2 k X) w (.inl (6, ck_dv 6))) n; rw [l2.1]; exact l2.2⟩, (show 118 + 115 ≤ 233 by omega), (show 7123 + 7087 ≤ 14210 by omega)⟩ ?_))
  show G 43 [some (rfv k), some (.inl a0), some (.inl a1), some (.inl a2), some (.inl a3), some (.inl a4), some (rfv n)] [rfv w, rfv k] (n_side (pv (u1 (u1 B2 k X) w (.inl (6, ck_dv 6))) n) w n (w + 1) (u1 (u1 B2 k X) w (.inl (6, ck_dv 6))), pb3 (pv (u1 (u1 B2 k X) w (.inl (6, ck_dv 6))) n) (w + 1) + 2, 233, 14210)
  rw [l2.1, u1_cm _ _ _ (show ¬ k = w by omega), n_side_cm (by omega) (by omega), hX]
  have e3 : n_side P w n (w + 1) (u1 B2 w (.inl (6, ck_dv 6))) = n_w3 P n f E := by rw [hB2, hw]; rfl
  rw [e3]
  have hpb2 := pb_lt P (w + 1)
  refine hG (fun pc => Nat.beq pc 46) 30 43 _ _ _ (And.intro ⟨by show k < pb3 P (w + 1) + 2; omega, by show (ob (u1 _ k _ k)).1 = 7; rw [u1_s]; rfl, _, rfl⟩ ?_)
  show G 46 [some (rfv k), some (.inl a0), some (.inl a1), some (.inl a2), some (.inl a3), some (.inl a4), some (rfv n)] [] (u1 (u1 (n_w3 P n f E) k (.inl (7, u1 (ck_dv 7) 0 (rfv (n + 1))))) k (.inl (7, u1 (ob (u1 (n_w3 P n f E) k (.inl (7, u1 (ck_dv 7) 0 (rfv (n + 1)))) k)).2 1 (rfv w))), pb3 P (w + 1) + 2, 233, 14210)
  rw [u1_s, u1_uu]
  refine hend _ _ ?_ _ _ _ (Nat.le_refl _) (Nat.le_refl _)
  rw [hw]
  rfl
set_option maxRecDepth 100000 in
theorem qX7_init {l : Launch} {b : Nat} {ca : Nat → ClassId} {D : va_G} : ck_met l b ca D yX7_init cX7_init 7 none { frames := 4, cells := 233, slots := 14210, locals := 88 } 6 zX7_init := by
  refine ck_meth (by decide) (by first | exact Or.inl rfl | exact Or.inr rfl) (by decide) jkX7_init cnX7_in ?_ (fun avs σ G hlen hf hG => jX7_init avs σ G hf hG)
  intro p e s m args below meth c Qw S hname hT hnw
  refine List.forall_mem_cons.mpr ⟨ck_obj_ok S.1 S.2.1 S.2.2.1 S.2.2.2.2 S.2.2.2.1 (by decide +kernel) (by decide +kernel) (by decide +kernel) ⟨by decide, by decide⟩, ?_⟩
  refine List.forall_mem_cons.mpr ⟨ck_new_ok S.1 S.2.1 S.2.2.2.2 S.2.2.2.1 hT (by decide) (by decide +kernel) (by decide +kernel) (by decide +kernel), ?_⟩
  refine List.forall_mem_cons.mpr ⟨ck_callI S hT hnw (rm' := { frames := 2, cells := 0, slots := 0, locals := 43 }) qX4_init 9 (fun avs σ h => zX4_init_ob h) ⟨by decide +kernel, by decide +kernel, by decide +kernel, by decide +kernel⟩ ⟨by decide, by decide, by decide +kernel⟩ rfl ⟨by decide, by decide⟩, ?_⟩
  refine List.forall_mem_cons.mpr ⟨ck_new_ok S.1 S.2.1 S.2.2.2.2 S.2.2.2.1 hT (by decide) (by decide +kernel) (by decide +kernel) (by decide +kernel), ?_⟩
  refine List.forall_mem_cons.mpr ⟨ck_callI S hT hnw (rm' := { frames := 3, cells := 115, slots := 7087, locals := 65 }) qX6_init 14 (fun avs σ h => zX6_init_ob h) ⟨by decide +kernel, by decide +kernel, by decide +kernel, by decide +kernel⟩ ⟨by decide, by decide, by decide +kernel⟩ rfl ⟨by decide, by decide⟩, ?_⟩
  refine List.forall_mem_cons.mpr ⟨ck_put_ok S.1 S.2.1 S.2.2.2.2 S.2.2.2.1 hT (by decide) (by decide) (by decide +kernel) hname rfl, ?_⟩
  refine List.forall_mem_cons.mpr ⟨ck_put_ok S.1 S.2.1 S.2.2.2.2 S.2.2.2.1 hT (by decide) (by decide) (by decide +kernel) hname rfl, ?_⟩
  exact fun q h => absurd h List.not_mem_nil
