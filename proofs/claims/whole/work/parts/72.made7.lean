/-! What is made: a side -/
theorem n_frame_cm {a n L k : Nat} {X : ck_E} {B : Nat → ck_E} (h1 : ¬ k = a) (h2 : ¬ k = n) : n_frame a n L (u1 B k X) = u1 (n_frame a n L B) k X := by
  unfold n_frame
  rw [u1_cm _ _ _ h2, u1_cm _ _ _ h1]
theorem n_flow_cm {a n k : Nat} {c : sw_V} {v : Int32} {X : ck_E} {B : Nat → ck_E} (h1 : ¬ k = a) (h2 : ¬ k = n) (h3 : ¬ k = n + 1) : n_flow a n c v (u1 B k X) = u1 (n_flow a n c v B) k X := by
  unfold n_flow
  rw [u1_cm _ _ _ h2, u1_cm _ _ _ h3, u1_cm _ _ _ h1]
theorem n_cells_cm {a n M k : Nat} {X : ck_E} {B : Nat → ck_E} (h1 : ¬ k = a) (h2 : k < n) : n_cells a n M (u1 B k X) = u1 (n_cells a n M B) k X := by
  unfold n_cells n_cb
  rw [u1_cm _ _ _ (show ¬ k = n by omega), u1_cm _ _ _ (show ¬ k = n + 1 by omega), u1_cm _ _ _ (show ¬ k = n + 2 by omega), u1_cm _ _ _ h1]
theorem n_frs_cm {n L k : Nat} {X : ck_E} {B : Nat → ck_E} (h2 : k < n) : ∀ i, n_frs n L i (u1 B k X) = u1 (n_frs n L i B) k X
  | 0 => rfl
  | i + 1 => by
    show u1 (u1 (n_frs n L i (u1 B k X)) (n + 1 + 2 * i) _) (n + 1 + 2 * i + 1) _ = u1 (u1 (u1 (n_frs n L i B) (n + 1 + 2 * i) _) (n + 1 + 2 * i + 1) _) k X
    rw [n_frs_cm h2 i, u1_cm _ _ _ (show ¬ k = n + 1 + 2 * i by omega), u1_cm _ _ _ (show ¬ k = n + 1 + 2 * i + 1 by omega)]
theorem n_fb_cm {a n R L i k : Nat} {X : ck_E} {B : Nat → ck_E} (h1 : ¬ k = a) (h2 : k < n) : n_fb a n R L i (u1 B k X) = u1 (n_fb a n R L i B) k X := by
  unfold n_fb
  rw [n_frs_cm h2, u1_cm _ _ _ (show ¬ k = n by omega), u1_cm _ _ _ h1]
theorem n_frame_lt {a n L x : Nat} {B : Nat → ck_E} (h1 : ¬ x = a) (h2 : ¬ x = n) : n_frame a n L B x = B x := by
  unfold n_frame
  rw [u1_n _ _ h1, u1_n _ _ h2]
theorem n_flow_lt {a n x : Nat} {c : sw_V} {v : Int32} {B : Nat → ck_E} (h1 : ¬ x = a) (h2 : ¬ x = n) (h3 : ¬ x = n + 1) : n_flow a n c v B x = B x := by
  unfold n_flow
  rw [u1_n _ _ h1, u1_n _ _ h3, u1_n _ _ h2]
theorem n_cells_lt {a n M x : Nat} {B : Nat → ck_E} (h1 : ¬ x = a) (h2 : x < n ∨ n + 3 ≤ x) : n_cells a n M B x = B x := by
  unfold n_cells n_cb
  rw [u1_n _ _ h1, u1_n _ _ (by omega), u1_n _ _ (by omega), u1_n _ _ (by omega)]
theorem n_frs_lt {n L x : Nat} {B : Nat → ck_E} : ∀ i, x ≤ n ∨ n + 1 + 2 * i ≤ x → n_frs n L i B x = B x
  | 0, _ => rfl
  | i + 1, h => by
    show u1 (u1 (n_frs n L i B) (n + 1 + 2 * i) _) (n + 1 + 2 * i + 1) _ x = B x
    rw [u1_n _ _ (by omega), u1_n _ _ (by omega), n_frs_lt i (by omega)]
theorem n_fb_lt {a n R L i x : Nat} {B : Nat → ck_E} (h1 : ¬ x = a) (h2 : x < n ∨ n + 1 + 2 * i ≤ x) : n_fb a n R L i B x = B x := by
  unfold n_fb
  rw [u1_n _ _ h1, u1_n _ _ (by omega), n_frs_lt i (by omega)]
def n_g3 (n i : Nat) : Nat → Option Nat := fun j => if j < i then some (n + 5 + 3 * j) else none
theorem n_g3_s (n i : Nat) : u1 (n_g3 n i) i (some (n + 5 + 3 * i)) = n_g3 n (i + 1) := by
  funext j
  unfold u1 n_g3
  by_cases hj : j = i
  · subst hj
    rw [if_pos rfl, if_pos (Nat.lt_succ_self j)]
  · rw [if_neg hj]
    by_cases hc : j < i
    · rw [if_pos hc, if_pos (show j < i + 1 by omega)]
    · rw [if_neg hc, if_neg (show ¬ j < i + 1 by omega)]
/-- the flows of a side whose cells stand at n -/
def n_fls (n S : Nat) (v : Int32) (B : Nat → ck_E) : Nat → Nat → ck_E
  | 0 => u1 B (n + 4) (.inr (3, S, .inr (n_g3 n 0)))
  | i + 1 => u1 (n_flow (n + 5 + 3 * i) (n + 5 + 3 * i + 1) (rfv n) v (u1 (n_fls n S v B i) (n + 5 + 3 * i) (.inl (1, ck_dv 1)))) (n + 4) (.inr (3, S, .inr (n_g3 n (i + 1))))
theorem n_fls_a (n S : Nat) (v : Int32) (B : Nat → ck_E) : ∀ i, n_fls n S v B i (n + 4) = .inr (3, S, .inr (n_g3 n i))
  | 0 => u1_s _ _ _
  | i + 1 => u1_s _ _ _
theorem n_fls_lt {n S x : Nat} {v : Int32} {B : Nat → ck_E} (h4 : ¬ x = n + 4) : ∀ i, x < n + 5 ∨ n + 5 + 3 * i ≤ x → n_fls n S v B i x = B x
  | 0, _ => u1_n _ _ h4
  | i + 1, h => by
    show u1 (n_flow (n + 5 + 3 * i) (n + 5 + 3 * i + 1) (rfv n) v (u1 (n_fls n S v B i) (n + 5 + 3 * i) _)) (n + 4) _ x = B x
    rw [u1_n _ _ h4, n_flow_lt (by omega) (by omega) (by omega), u1_n _ _ (by omega), n_fls_lt h4 i (by omega)]

/-! the whole of a side -/
def pb1 (P : az_P) (n : Nat) : Nat := n + 5 + 3 * P 0
def pb2 (P : az_P) (n : Nat) : Nat := pb1 P n + 2 + 2 * P 2
def pb3 (P : az_P) (n : Nat) : Nat := pb2 P n + 2 + 2 * P 4
def n_s1 (P : az_P) (n : Nat) (E : Nat → ck_E) : Nat → ck_E := n_cells n (n + 1) (az_rm P) (u1 E n (.inl (0, ck_dv 0)))
def n_s2 (P : az_P) (n : Nat) (E : Nat → ck_E) : Nat → ck_E := n_fls n (P 0) (nI (P 5)) (n_s1 P n E) (P 0)
def n_s3 (P : az_P) (n : Nat) (E : Nat → ck_E) : Nat → ck_E := n_fb (pb1 P n) (pb1 P n + 1) (P 2) (P 1 + 3) (P 2) (u1 (n_s2 P n E) (pb1 P n) (.inl (3, ck_dv 3)))
def n_s4 (P : az_P) (n : Nat) (E : Nat → ck_E) : Nat → ck_E := n_fb (pb2 P n) (pb2 P n + 1) (P 4) (P 1 + 3) (P 4) (u1 (n_s3 P n E) (pb2 P n) (.inl (3, ck_dv 3)))
def n_s5 (P : az_P) (n : Nat) (E : Nat → ck_E) : Nat → ck_E := n_frame (pb3 P n) (pb3 P n + 1) (P 1 + 3) (u1 (n_s4 P n E) (pb3 P n) (.inl (2, ck_dv 2)))
def n_sv (P : az_P) (n q : Nat) : Nat → sw_V := u1 (u1 (u1 (u1 (u1 (u1 (ck_dv 6) 8 (.inl 1)) 0 (rfv q)) 1 (rfv (n + 4))) 2 (rfv (pb1 P n))) 3 (rfv (pb2 P n))) 4 (rfv (pb3 P n))
def n_side (P : az_P) (k q n : Nat) (E : Nat → ck_E) : Nat → ck_E := u1 (n_s5 P n E) k (.inl (6, n_sv P n q))
def pv (E : Nat → ck_E) (q : Nat) : az_P := fun j => (gi ((ob (E q)).2 j)).toNatClampNeg
def lok (P : az_P) (E : Nat → ck_E) (q : Nat) : Prop := (ob (E q)).1 = 4 ∧ ∀ j, j < 6 → (ob (E q)).2 j = .inl (nI (P j))
def zX6_init : ck_F := fun avs σ => match avs with
  | [.inr (some (0, k)), .inr (some (0, q))] => (k < σ.2 ∧ q < σ.2 ∧ σ.1 k = .inl (6, ck_dv 6) ∧ az_ok (pv σ.1 q) ∧ lok (pv σ.1 q) σ.1 q, none, (n_side (pv σ.1 q) k q σ.2 σ.1, pb3 (pv σ.1 q) σ.2 + 2))
  | _ => (False, none, σ)
theorem zX6_init_of {avs : List sw_V} {σ : ck_2} (h : (zX6_init avs σ).1) : ∃ k q, avs = [.inr (some (0, k)), .inr (some (0, q))] := by
  unfold zX6_init at h
  split at h
  · exact ⟨_, _, rfl⟩
  · exact h.elim
theorem zX6_init_ob {avs : List sw_V} {σ : ck_2} (h : (zX6_init avs σ).1) : ∃ k tl, avs = .inr (some (0, k)) :: tl := by
  obtain ⟨k, x, rfl⟩ := zX6_init_of h
  exact ⟨k, _, rfl⟩
def jcX6_init : gs_C ck_S := [(2, 3, 1, ck_obj), (7, 9, 2, ck_put 6 8), (7, 15, 2, ck_put 6 0), (3, 19, 0, ck_new 115 7087 0), (6, 21, 1, ck_get 4 3), (6, 26, 1, ck_get 4 0), (6, 29, 1, ck_get 4 5), (2, 32, 2, ck_cf 115 7087 3 6000 zX0_init), (5, 35, 1, ck_newq 115 7087 3), (7, 37, 2, ck_put 6 1), (6, 37, 1, ck_get 6 1), (11, 0, 1, ck_len), (3, 35, 0, ck_new 115 7087 1), (2, 41, 3, ck_cf 115 7087 2 8 zX1_init), (10, 0, 3, ck_ast), (3, 44, 0, ck_new 115 7087 3), (6, 46, 1, ck_get 4 2), (0, 49, 1, ck_cf 115 7087 0 0 zX4_longestFrame), (2, 53, 3, ck_cf 115 7087 41 440 zX3_init), (7, 56, 2, ck_put 6 2), (6, 60, 1, ck_get 4 4), (7, 63, 2, ck_put 6 3), (3, 66, 0, ck_new 115 7087 2), (2, 68, 2, ck_cf 115 7087 1 19 zX2_init), (7, 69, 2, ck_put 6 4)]
abbrev jqX6_init (avs : List sw_V) (σ : ck_2) : Option sw_V → ck_S → Prop := fun r σ' => r = (zX6_init avs σ).2.1 ∧ σ'.1 = (zX6_init avs σ).2.2.1 ∧ σ'.2.1 = (zX6_init avs σ).2.2.2 ∧ σ'.2.2.1 ≤ 115 ∧ σ'.2.2.2 ≤ 7087 ∧ ((none : Option FieldType) = none ↔ r = none)
abbrev jwX6_init (avs : List sw_V) (σ : ck_2) (G : Nat → sw_L → List sw_V → ck_S → Prop) : Prop := ∀ stop k pc L st σ', gs_ws jcX6_init jsX6_init 135 jtX6_init (jqX6_init avs σ) G stop k pc L st σ' → G pc L st σ'
theorem jX6_loop (P : az_P) (hP : az_ok P) (k q n : Nat) (f : Nat → sw_V) (B : Nat → ck_E) (G : Nat → sw_L → List sw_V → ck_S → Prop) (avs : List sw_V) (σ : ck_2) (hG : jwX6_init avs σ G) (hk : k < n) (hq : q < n) (hkq : ¬ q = k) (hf : f 1 = rfv (n + 4)) (hB : lok P B q)
    (hd : G 82 [some (rfv k), some (rfv q), some (rfv n), some (.inl (nI (P 0)))] [] (u1 (n_fls n (P 0) (nI (P 5)) B (P 0)) k (.inl (6, f)), n + 5 + 3 * P 0, 5 + 3 * P 0, 6004 + P 0 + 21 * P 0)) : ∀ (d i : Nat), i + d = P 0 → G 49 [some (rfv k), some (rfv q), some (rfv n), some (.inl (nI i))] [] (u1 (n_fls n (P 0) (nI (P 5)) B i) k (.inl (6, f)), n + 5 + 3 * i, 5 + 3 * i, 6004 + P 0 + 21 * i) := by
  have hp := hP.1
  intro d
  have hlen : ∀ i, i ≤ P 0 → (∀ (h : G 55 [some (rfv k), some (rfv q), some (rfv n), some (.inl (nI i))] [.inl (nI (P 0)), .inl (nI i)] (u1 (n_fls n (P 0) (nI (P 5)) B i) k (.inl (6, f)), n + 5 + 3 * i, 5 + 3 * i, 6004 + P 0 + 21 * i)), G 49 [some (rfv k), some (rfv q), some (rfv n), some (.inl (nI i))] [] (u1 (n_fls n (P 0) (nI (P 5)) B i) k (.inl (6, f)), n + 5 + 3 * i, 5 + 3 * i, 6004 + P 0 + 21 * i)) := fun i hi h => by
    obtain ⟨F, hF⟩ : ∃ F, F = n_fls n (P 0) (nI (P 5)) B i := ⟨_, rfl⟩
    have e4 : u1 F k (.inl (6, f)) (n + 4) = .inr (3, P 0, .inr (n_g3 n i)) := by
      rw [u1_n _ _ (by omega), hF, n_fls_a]
    rw [← hF] at h ⊢
    refine hG (fun pc => Nat.beq pc 54) 20 49 _ _ _ (And.intro ⟨by show k < n + 5 + 3 * i; omega, by show (ob (u1 F k _ k)).1 = 6; rw [u1_s]; rfl⟩ ?_)
    show G 54 [some (rfv k), some (rfv q), some (rfv n), some (.inl (nI i))] [(ob (u1 F k (.inl (6, f)) k)).2 1, .inl (nI i)] (u1 F k (.inl (6, f)), n + 5 + 3 * i, 5 + 3 * i, 6004 + P 0 + 21 * i)
    rw [u1_s]
    show G 54 [some (rfv k), some (rfv q), some (rfv n), some (.inl (nI i))] [f 1, .inl (nI i)] (u1 F k (.inl (6, f)), n + 5 + 3 * i, 5 + 3 * i, 6004 + P 0 + 21 * i)
    rw [hf]
    refine hG (fun pc => Nat.beq pc 55) 20 54 _ _ _ (And.intro ⟨by show n + 4 < n + 5 + 3 * i; omega, Or.inl (by show (ar (u1 F k (.inl (6, f)) (n + 4))).1 = 3; rw [e4]; rfl), by show u1 F k (.inl (6, f)) (n + 4) = .inr ((ar (u1 F k (.inl (6, f)) (n + 4))).1, (ar (u1 F k (.inl (6, f)) (n + 4))).2, .inr (rq (u1 F k (.inl (6, f)) (n + 4)))); rw [e4]; rfl⟩ ?_)
    show G 55 [some (rfv k), some (rfv q), some (rfv n), some (.inl (nI i))] [.inl (nI (ar (u1 F k (.inl (6, f)) (n + 4))).2), .inl (nI i)] (u1 F k (.inl (6, f)), n + 5 + 3 * i, 5 + 3 * i, 6004 + P 0 + 21 * i)
    rw [e4]
    exact h
  induction d with
  | zero =>
    intro i hi
    have hi : i = P 0 := by omega
    refine hlen i (by omega) ?_
    rw [hi]
    refine hG (fun pc => Nat.beq pc 82) 20 55 _ _ _ (And.intro (fun _ => hd) (fun (z : ¬ nI (P 0) ≤ nI (P 0)) => absurd (Int32.le_refl _) z))
  | succ d ih =>
    intro i hi
    refine hlen i (by omega) ?_
    have hlt : ¬ nI (P 0) ≤ nI i := nI_ge (by omega) (by omega)
    obtain ⟨F, hF⟩ : ∃ F, F = n_fls n (P 0) (nI (P 5)) B i := ⟨_, rfl⟩
    obtain ⟨m, hm⟩ : ∃ m, m = n + 5 + 3 * i := ⟨_, rfl⟩
    have eF4 : F (n + 4) = .inr (3, P 0, .inr (n_g3 n i)) := by rw [hF, n_fls_a]
    have eFq : F q = B q := by rw [hF]; exact n_fls_lt (by omega) i (by omega)
    have hs : u1 (n_flow m (m + 1) (rfv n) (nI (P 5)) (u1 F m (.inl (1, ck_dv 1)))) (n + 4) (.inr (3, P 0, .inr (n_g3 n (i + 1)))) = n_fls n (P 0) (nI (P 5)) B (i + 1) := by rw [hF, hm]; rfl
    rw [← hF, ← hm]
    refine hG (fun pc => Nat.beq pc 62) 20 55 _ _ _ (And.intro (fun (z : nI (P 0) ≤ nI i) => absurd z hlt) (fun _ => And.intro ⟨by show k < m; omega, by show (ob (u1 F k _ k)).1 = 6; rw [u1_s]; rfl⟩ ?_))
    show G 62 [some (rfv k), some (rfv q), some (rfv n), some (.inl (nI i))] [(ob (u1 F k (.inl (6, f)) k)).2 1] (u1 F k (.inl (6, f)), m, 5 + 3 * i, 6004 + P 0 + 21 * i)
    rw [u1_s]
    show G 62 [some (rfv k), some (rfv q), some (rfv n), some (.inl (nI i))] [f 1] (u1 F k (.inl (6, f)), m, 5 + 3 * i, 6004 + P 0 + 21 * i)
    rw [hf]
    have e5 : u1 (u1 F k (.inl (6, f))) m (.inl (1, ck_dv 1)) q = B q := by rw [u1_n _ _ (by omega), u1_n _ _ hkq, eFq]
    refine hG (fun pc => Nat.beq pc 72) 20 62 _ _ _ (And.intro ⟨by show 5 + 3 * i + 1 ≤ 115; omega, by show 6004 + P 0 + 21 * i + 13 ≤ 7087; omega⟩ (And.intro ⟨by show q < m + 1; omega, by show (ob (u1 (u1 F k (.inl (6, f))) m (.inl (1, ck_dv 1)) q)).1 = 4; rw [e5]; exact hB.1⟩ ?_))
    show G 72 [some (rfv k), some (rfv q), some (rfv n), some (.inl (nI i))] [(ob (u1 (u1 F k (.inl (6, f))) m (.inl (1, ck_dv 1)) q)).2 5, rfv n, rfv m, rfv m, .inl (nI i), rfv (n + 4)] (u1 (u1 F k (.inl (6, f))) m (.inl (1, ck_dv 1)), m + 1, 5 + 3 * i + 1, 6004 + P 0 + 21 * i + 13)
    rw [e5, hB.2 5 (by decide)]
    refine hG (fun pc => Nat.beq pc 75) 20 72 _ _ _ (And.intro ⟨⟨Nat.lt_succ_self m, by show u1 _ m _ m = _; rw [u1_s]⟩, by show 5 + 3 * i + 1 + 2 ≤ 115; omega, by show 6004 + P 0 + 21 * i + 13 + 8 ≤ 7087; omega⟩ ?_)
    show G 75 [some (rfv k), some (rfv q), some (rfv n), some (.inl (nI i))] [rfv m, .inl (nI i), rfv (n + 4)] (n_flow m (m + 1) (rfv n) (nI (P 5)) (u1 (u1 F k (.inl (6, f))) m (.inl (1, ck_dv 1))), m + 1 + 2, 5 + 3 * i + 1 + 2, 6004 + P 0 + 21 * i + 13 + 8)
    rw [u1_cm _ _ _ (show ¬ k = m by omega), n_flow_cm (by omega) (by omega) (by omega)]
    obtain ⟨T, hT⟩ : ∃ T, T = u1 (n_flow m (m + 1) (rfv n) (nI (P 5)) (u1 F m (.inl (1, ck_dv 1)))) k (.inl (6, f)) := ⟨_, rfl⟩
    have eT4 : T (n + 4) = .inr (3, P 0, .inr (n_g3 n i)) := by
      rw [hT, u1_n _ _ (by omega), n_flow_lt (by omega) (by omega) (by omega), u1_n _ _ (by omega), eF4]
    have eTm : (ob (T m)).1 = 1 := by
      rw [hT, u1_n _ _ (by omega)]
      unfold n_flow
      rw [u1_s]
      rfl
    rw [← hT]
    refine hG (fun pc => Nat.beq pc 49) 20 75 _ _ _ (And.intro ⟨by show n + 4 < m + 1 + 2; omega, by show m < m + 1 + 2; omega, ?_, Or.inl ⟨?_, eTm⟩, ?_⟩ ?_)
    · show T (n + 4) = .inr ((ar (T (n + 4))).1, (ar (T (n + 4))).2, .inr (rq (T (n + 4))))
      rw [eT4]
      rfl
    · show (ar (T (n + 4))).1 = 3
      rw [eT4]
      rfl
    · show vp_in (nI i) (ar (T (n + 4))).2
      rw [eT4]
      exact vp_in_nI (by show i < P 0; omega) (by show P 0 < 2 ^ 31; omega)
    · show G 49 [some (rfv k), some (rfv q), some (rfv n), some (.inl (nI i + 1))] [] (u1 T (n + 4) (.inr ((ar (T (n + 4))).1, (ar (T (n + 4))).2, .inr (u1 (rq (T (n + 4))) (nI i).toNatClampNeg (some m)))), m + 1 + 2, 5 + 3 * i + 1 + 2, 6004 + P 0 + 21 * i + 13 + 8)
      rw [eT4, nI_1, nI_clamp (by omega)]
      show G 49 [some (rfv k), some (rfv q), some (rfv n), some (.inl (nI (i + 1)))] [] (u1 T (n + 4) (.inr (3, P 0, .inr (u1 (n_g3 n i) i (some m)))), m + 1 + 2, 5 + 3 * i + 1 + 2, 6004 + P 0 + 21 * i + 13 + 8)
      rw [hm, n_g3_s, hT, u1_cm _ _ _ (show ¬ k = n + 4 by omega), hs, show n + 5 + 3 * i + 1 + 2 = n + 5 + 3 * (i + 1) by omega, show 5 + 3 * i + 1 + 2 = 5 + 3 * (i + 1) by omega, show 6004 + P 0 + 21 * i + 13 + 8 = 6004 + P 0 + 21 * (i + 1) by omega]
      exact ih (i + 1) (by omega)
