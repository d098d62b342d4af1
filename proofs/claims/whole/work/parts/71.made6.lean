/-! What is made: a ring of frames -/
def n_frs (n L : Nat) : Nat → (Nat → ck_E) → Nat → ck_E
  | 0, E => E
  | i + 1, E => u1 (u1 (n_frs n L i E) (n + 1 + 2 * i) (.inl (2, u1 (ck_dv 2) 0 (rfv (n + 1 + 2 * i + 1))))) (n + 1 + 2 * i + 1) (.inr (0, L, .inl (fun _ => 0)))
def n_g (n i : Nat) : Nat → Option Nat := fun j => if j < i then some (n + 1 + 2 * j) else none
theorem n_g_s (n i : Nat) : u1 (n_g n i) i (some (n + 1 + 2 * i)) = n_g n (i + 1) := by
  funext j
  unfold u1 n_g
  by_cases hj : j = i
  · subst hj
    rw [if_pos rfl, if_pos (Nat.lt_succ_self j)]
  · rw [if_neg hj]
    by_cases hc : j < i
    · rw [if_pos hc, if_pos (show j < i + 1 by omega)]
    · rw [if_neg hc, if_neg (show ¬ j < i + 1 by omega)]
def n_fo (n : Nat) : Nat → sw_V := u1 (ck_dv 3) 0 (rfv n)
def n_fb (k n R L i : Nat) (E : Nat → ck_E) : Nat → ck_E := u1 (u1 (n_frs n L i E) n (.inr (4, R, .inr (n_g n i)))) k (.inl (3, n_fo n))
theorem n_fb_s {k n R L i : Nat} {E : Nat → ck_E} (hk : k < n) : u1 (n_frame (n + 1 + 2 * i) (n + 1 + 2 * i + 1) L (u1 (n_fb k n R L i E) (n + 1 + 2 * i) (.inl (2, ck_dv 2)))) n (.inr (4, R, .inr (u1 (n_g n i) i (some (n + 1 + 2 * i))))) = n_fb k n R L (i + 1) E := by
  rw [n_g_s]
  obtain ⟨m, hm⟩ : ∃ m, m = n + 1 + 2 * i := ⟨_, rfl⟩
  have e : n_frs n L (i + 1) E = u1 (u1 (n_frs n L i E) m (.inl (2, u1 (ck_dv 2) 0 (rfv (m + 1))))) (m + 1) (.inr (0, L, .inl (fun _ => 0))) := by rw [hm]; rfl
  unfold n_fb n_frame
  rw [e, ← hm]
  funext x
  by_cases h1 : x = n
  · subst h1
    rw [u1_s, u1_n _ _ (show ¬ x = k by omega), u1_s]
  · rw [u1_n _ _ h1]
    by_cases h2 : x = k
    · subst h2
      rw [u1_n _ _ (show ¬ x = m by omega), u1_n _ _ (show ¬ x = m + 1 by omega), u1_n _ _ (show ¬ x = m by omega), u1_s, u1_s]
    · rw [u1_n (u1 (u1 (u1 (n_frs n L i E) m _) (m + 1) _) n _) _ h2, u1_n (u1 (u1 (n_frs n L i E) m _) (m + 1) _) _ h1]
      by_cases h3 : x = m
      · subst h3
        rw [u1_s, u1_n _ _ (show ¬ x = x + 1 by omega), u1_s]
      · rw [u1_n _ _ h3]
        by_cases h4 : x = m + 1
        · subst h4
          rw [u1_s, u1_s]
        · rw [u1_n _ _ h4, u1_n _ _ h3, u1_n _ _ h2, u1_n _ _ h1, u1_n _ _ h4, u1_n _ _ h3]
theorem n_fb_k (k n R L i : Nat) (E : Nat → ck_E) : n_fb k n R L i E k = .inl (3, n_fo n) := u1_s _ _ _
theorem n_fb_n {k n R L i : Nat} {E : Nat → ck_E} (hk : k < n) : n_fb k n R L i E n = .inr (4, R, .inr (n_g n i)) := by
  unfold n_fb
  rw [u1_n _ _ (by omega), u1_s]
def zX3_init : ck_F := fun avs σ => match avs with
  | [.inr (some (0, k)), .inl r, .inl x] => (k < σ.2 ∧ σ.1 k = .inl (3, ck_dv 3) ∧ r = nI r.toNatClampNeg ∧ r.toNatClampNeg ≤ 20 ∧ ¬ x < 0 ∧ x.toNatClampNeg ≤ 19, none, (n_fb k σ.2 r.toNatClampNeg x.toNatClampNeg r.toNatClampNeg σ.1, σ.2 + 1 + 2 * r.toNatClampNeg))
  | _ => (False, none, σ)
theorem zX3_init_of {avs : List sw_V} {σ : ck_2} (h : (zX3_init avs σ).1) : ∃ k r x, avs = [.inr (some (0, k)), .inl r, .inl x] := by
  unfold zX3_init at h
  split at h
  · exact ⟨_, _, _, rfl⟩
  · exact h.elim
theorem zX3_init_ob {avs : List sw_V} {σ : ck_2} (h : (zX3_init avs σ).1) : ∃ k tl, avs = .inr (some (0, k)) :: tl := by
  obtain ⟨k, r, x, rfl⟩ := zX3_init_of h
  exact ⟨k, _, rfl⟩
def jcX3_init : gs_C ck_S := [(2, 1, 1, ck_obj), (1, 7, 2, ck_max 41 440), (5, 13, 1, ck_newq 41 440 4), (7, 15, 2, ck_put 3 0), (6, 15, 1, ck_get 3 0), (11, 0, 1, ck_len), (3, 13, 0, ck_new 41 440 2), (2, 21, 2, ck_cf 41 440 1 19 zX2_init), (10, 0, 3, ck_ast)]
abbrev jqX3_init (avs : List sw_V) (σ : ck_2) : Option sw_V → ck_S → Prop := fun r σ' => r = (zX3_init avs σ).2.1 ∧ σ'.1 = (zX3_init avs σ).2.2.1 ∧ σ'.2.1 = (zX3_init avs σ).2.2.2 ∧ σ'.2.2.1 ≤ 41 ∧ σ'.2.2.2 ≤ 440 ∧ ((none : Option FieldType) = none ↔ r = none)
abbrev jwX3_init (avs : List sw_V) (σ : ck_2) (G : Nat → sw_L → List sw_V → ck_S → Prop) : Prop := ∀ stop k pc L st σ', gs_ws jcX3_init jsX3_init 47 jtX3_init (jqX3_init avs σ) G stop k pc L st σ' → G pc L st σ'
theorem jX3_loop (k n R L : Nat) (x : Int32) (E : Nat → ck_E) (G : Nat → sw_L → List sw_V → ck_S → Prop) (avs : List sw_V) (σ : ck_2) (hG : jwX3_init avs σ G) (hk : k < n) (hR : R ≤ 20) (hx0 : ¬ x < 0) (hx : x.toNatClampNeg = L) (hL : L ≤ 19) (hd : G 47 [some (rfv k), some (.inl (nI R)), some (.inl x), some (.inl (nI R))] [] (n_fb k n R L R E, n + 1 + 2 * R, 1 + 2 * R, R + 21 * R)) : ∀ (d i : Nat), i + d = R → G 18 [some (rfv k), some (.inl (nI R)), some (.inl x), some (.inl (nI i))] [] (n_fb k n R L i E, n + 1 + 2 * i, 1 + 2 * i, R + 21 * i) := by
  intro d
  induction d with
  | zero =>
    intro i hi
    have hi : i = R := by omega
    subst hi
    refine hG (fun pc => Nat.beq pc 23) 20 18 _ _ _ (And.intro ⟨by show k < n + 1 + 2 * i; omega, by show (ob (n_fb k n i L i E k)).1 = 3; rw [n_fb_k]; rfl⟩ ?_)
    show G 23 [some (rfv k), some (.inl (nI i)), some (.inl x), some (.inl (nI i))] [(ob (n_fb k n i L i E k)).2 0, .inl (nI i)] (n_fb k n i L i E, n + 1 + 2 * i, 1 + 2 * i, i + 21 * i)
    rw [n_fb_k]
    show G 23 [some (rfv k), some (.inl (nI i)), some (.inl x), some (.inl (nI i))] [rfv n, .inl (nI i)] (n_fb k n i L i E, n + 1 + 2 * i, 1 + 2 * i, i + 21 * i)
    refine hG (fun pc => Nat.beq pc 24) 20 23 _ _ _ (And.intro ⟨by show n < n + 1 + 2 * i; omega, Or.inr (by show (ar (n_fb k n i L i E n)).1 = 4; rw [n_fb_n hk]; rfl), by show n_fb k n i L i E n = .inr ((ar (n_fb k n i L i E n)).1, (ar (n_fb k n i L i E n)).2, .inr (rq (n_fb k n i L i E n))); rw [n_fb_n hk]; rfl⟩ ?_)
    show G 24 [some (rfv k), some (.inl (nI i)), some (.inl x), some (.inl (nI i))] [.inl (nI (ar (n_fb k n i L i E n)).2), .inl (nI i)] (n_fb k n i L i E, n + 1 + 2 * i, 1 + 2 * i, i + 21 * i)
    rw [n_fb_n hk]
    refine hG (fun pc => Nat.beq pc 47) 20 24 _ _ _ (And.intro (fun _ => hd) (fun (z : ¬ nI i ≤ nI i) => absurd (Int32.le_refl _) z))
  | succ d ih =>
    intro i hi
    have hlt : ¬ nI R ≤ nI i := nI_ge (by omega) (by omega)
    refine hG (fun pc => Nat.beq pc 23) 20 18 _ _ _ (And.intro ⟨by show k < n + 1 + 2 * i; omega, by show (ob (n_fb k n R L i E k)).1 = 3; rw [n_fb_k]; rfl⟩ ?_)
    show G 23 [some (rfv k), some (.inl (nI R)), some (.inl x), some (.inl (nI i))] [(ob (n_fb k n R L i E k)).2 0, .inl (nI i)] (n_fb k n R L i E, n + 1 + 2 * i, 1 + 2 * i, R + 21 * i)
    rw [n_fb_k]
    show G 23 [some (rfv k), some (.inl (nI R)), some (.inl x), some (.inl (nI i))] [rfv n, .inl (nI i)] (n_fb k n R L i E, n + 1 + 2 * i, 1 + 2 * i, R + 21 * i)
    refine hG (fun pc => Nat.beq pc 24) 20 23 _ _ _ (And.intro ⟨by show n < n + 1 + 2 * i; omega, Or.inr (by show (ar (n_fb k n R L i E n)).1 = 4; rw [n_fb_n hk]; rfl), by show n_fb k n R L i E n = .inr ((ar (n_fb k n R L i E n)).1, (ar (n_fb k n R L i E n)).2, .inr (rq (n_fb k n R L i E n))); rw [n_fb_n hk]; rfl⟩ ?_)
    show G 24 [some (rfv k), some (.inl (nI R)), some (.inl x), some (.inl (nI i))] [.inl (nI (ar (n_fb k n R L i E n)).2), .inl (nI i)] (n_fb k n R L i E, n + 1 + 2 * i, 1 + 2 * i, R + 21 * i)
    rw [n_fb_n hk]
    refine hG (fun pc => Nat.beq pc 31) 20 24 _ _ _ (And.intro (fun (z : nI R ≤ nI i) => absurd z hlt) (fun _ => And.intro ⟨by show k < n + 1 + 2 * i; omega, by show (ob (n_fb k n R L i E k)).1 = 3; rw [n_fb_k]; rfl⟩ ?_))
    show G 31 [some (rfv k), some (.inl (nI R)), some (.inl x), some (.inl (nI i))] [(ob (n_fb k n R L i E k)).2 0] (n_fb k n R L i E, n + 1 + 2 * i, 1 + 2 * i, R + 21 * i)
    rw [n_fb_k]
    show G 31 [some (rfv k), some (.inl (nI R)), some (.inl x), some (.inl (nI i))] [rfv n] (n_fb k n R L i E, n + 1 + 2 * i, 1 + 2 * i, R + 21 * i)
    refine hG (fun pc => Nat.beq pc 40) 20 31 _ _ _ (And.intro ⟨by show 1 + 2 * i + 1 ≤ 41; omega, by show R + 21 * i + 2 ≤ 440; omega⟩ (And.intro ⟨⟨Nat.lt_succ_self _, by show u1 _ (n + 1 + 2 * i) _ (n + 1 + 2 * i) = _; rw [u1_s], hx0, by rw [hx]; exact hL⟩, by show 1 + 2 * i + 1 + 1 ≤ 41; omega, by show R + 21 * i + 2 + 19 ≤ 440; omega⟩ ?_))
    show G 40 [some (rfv k), some (.inl (nI R)), some (.inl x), some (.inl (nI i))] [rfv (n + 1 + 2 * i), .inl (nI i), rfv n] (n_frame (n + 1 + 2 * i) (n + 1 + 2 * i + 1) x.toNatClampNeg (u1 (n_fb k n R L i E) (n + 1 + 2 * i) (.inl (2, ck_dv 2))), n + 1 + 2 * i + 1 + 1, 1 + 2 * i + 1 + 1, R + 21 * i + 2 + 19)
    rw [hx]
    obtain ⟨S, hS⟩ : ∃ S, S = n_frame (n + 1 + 2 * i) (n + 1 + 2 * i + 1) L (u1 (n_fb k n R L i E) (n + 1 + 2 * i) (.inl (2, ck_dv 2))) := ⟨_, rfl⟩
    have eS : S n = .inr (4, R, .inr (n_g n i)) := by
      rw [hS]
      unfold n_frame
      rw [u1_n _ _ (by omega), u1_n _ _ (by omega), u1_n _ _ (by omega), n_fb_n hk]
    have eM : (ob (S (n + 1 + 2 * i))).1 = 2 := by
      rw [hS]
      unfold n_frame
      rw [u1_s]
      rfl
    have eN : u1 S n (.inr (4, R, .inr (u1 (n_g n i) i (some (n + 1 + 2 * i))))) = n_fb k n R L (i + 1) E := by
      rw [hS]
      exact n_fb_s hk
    rw [← hS]
    refine hG (fun pc => Nat.beq pc 18) 20 40 _ _ _ (And.intro ⟨by show n < n + 1 + 2 * i + 1 + 1; omega, by show n + 1 + 2 * i < n + 1 + 2 * i + 1 + 1; omega, ?_, Or.inr ⟨?_, eM⟩, ?_⟩ ?_)
    · show S n = .inr ((ar (S n)).1, (ar (S n)).2, .inr (rq (S n)))
      rw [eS]
      rfl
    · show (ar (S n)).1 = 4
      rw [eS]
      rfl
    · show vp_in (nI i) (ar (S n)).2
      rw [eS]
      exact vp_in_nI (by show i < R; omega) (by show R < 2 ^ 31; omega)
    · show G 18 [some (rfv k), some (.inl (nI R)), some (.inl x), some (.inl (nI i + 1))] [] (u1 S n (.inr ((ar (S n)).1, (ar (S n)).2, .inr (u1 (rq (S n)) (nI i).toNatClampNeg (some (n + 1 + 2 * i))))), n + 1 + 2 * i + 1 + 1, 1 + 2 * i + 1 + 1, R + 21 * i + 2 + 19)
      rw [eS, nI_1, nI_clamp (by omega)]
      show G 18 [some (rfv k), some (.inl (nI R)), some (.inl x), some (.inl (nI (i + 1)))] [] (u1 S n (.inr (4, R, .inr (u1 (n_g n i) i (some (n + 1 + 2 * i))))), n + 1 + 2 * i + 1 + 1, 1 + 2 * i + 1 + 1, R + 21 * i + 2 + 19)
      rw [eN, show n + 1 + 2 * i + 1 + 1 = n + 1 + 2 * (i + 1) by omega, show 1 + 2 * i + 1 + 1 = 1 + 2 * (i + 1) by omega, show R + 21 * i + 2 + 19 = R + 21 * (i + 1) by omega]
      exact ih (i + 1) (by omega)
theorem jX3_init (avs : List sw_V) (σ : ck_2) (G : Nat → sw_L → List sw_V → ck_S → Prop) (hf : (zX3_init avs σ).1) (hG : jwX3_init avs σ G) : G 0 (sw_ent 4 avs) [] (σ.1, σ.2, 0, 0) := by
  obtain ⟨k, r, x, rfl⟩ := zX3_init_of hf
  obtain ⟨E, n⟩ := σ
  obtain ⟨h1, h2, h3, h4, h5, h6⟩ := hf
  have h1 : k < n := h1
  have h2 : E k = .inl (3, ck_dv 3) := h2
  obtain ⟨R, hR⟩ : ∃ R, R = r.toNatClampNeg := ⟨_, rfl⟩
  rw [← hR] at h3 h4
  subst h3
  have hc : (nI R).toNatClampNeg = R := nI_clamp (by omega)
  have hn0 : ¬ nI R < 0 := nI_pos (by omega)
  refine hG (fun pc => Nat.beq pc 10) 20 0 _ _ _ (And.intro trivial (And.intro ⟨Nat.zero_le _, Nat.zero_le _⟩ ?_))
  show G 10 [some (rfv k), some (.inl (nI R)), some (.inl x), none] [.inl (if (0 : Int32) < nI R then nI R else 0), rfv k] (E, n, 0, 0)
  rw [max0 hn0]
  refine hG (fun pc => Nat.beq pc 13) 20 10 _ _ _ (And.intro ⟨hn0, by rw [hc]; omega, Nat.le_of_ble_eq_true rfl, by show 0 + (nI R).toNatClampNeg ≤ 440; omega⟩ ?_)
  show G 13 [some (rfv k), some (.inl (nI R)), some (.inl x), none] [rfv n, rfv k] (u1 E n (.inr (4, (nI R).toNatClampNeg, .inr (fun _ => none))), n + 1, 0 + 1, 0 + (nI R).toNatClampNeg)
  rw [hc, Nat.zero_add, Nat.zero_add]
  have ek : u1 E n (.inr (4, R, .inr (fun _ => none))) k = .inl (3, ck_dv 3) := by
    rw [u1_n _ _ (by omega)]
    exact h2
  have eg : (fun _ : Nat => (none : Option Nat)) = n_g n 0 := by
    funext j
    exact (if_neg (Nat.not_lt_zero j)).symm
  refine hG (fun pc => Nat.beq pc 16) 20 13 _ _ _ (And.intro ⟨by show k < n + 1; omega, by show (ob (u1 E n (.inr (4, R, .inr (fun _ => none))) k)).1 = 3; rw [ek]; rfl, _, rfl⟩ ?_)
  show G 16 [some (rfv k), some (.inl (nI R)), some (.inl x), none] [] (u1 (u1 E n (.inr (4, R, .inr (fun _ => none)))) k (.inl (3, u1 (ob (u1 E n (.inr (4, R, .inr (fun _ => none))) k)).2 0 (rfv n))), n + 1, 1, R)
  rw [ek, eg]
  show G 16 [some (rfv k), some (.inl (nI R)), some (.inl x), none] [] (n_fb k n R x.toNatClampNeg 0 E, n + 1, 1, R)
  refine hG (fun pc => Nat.beq pc 18) 20 16 _ _ _ ?_
  show G 18 [some (rfv k), some (.inl (nI R)), some (.inl x), some (.inl (nI 0))] [] (n_fb k n R x.toNatClampNeg 0 E, n + 1 + 2 * 0, 1 + 2 * 0, R + 21 * 0)
  refine jX3_loop k n R x.toNatClampNeg x E G _ _ hG h1 h4 h5 rfl h6 ?_ R 0 (by omega)
  refine hG (fun _ => false) 20 47 _ _ _ ⟨rfl, ?_, ?_, by show 1 + 2 * R ≤ 41; omega, by show R + 21 * R ≤ 440; omega, ck_nn⟩
  · show n_fb k n R x.toNatClampNeg R E = n_fb k n (nI R).toNatClampNeg x.toNatClampNeg (nI R).toNatClampNeg E
    rw [hc]
  · show n + 1 + 2 * R = n + 1 + 2 * (nI R).toNatClampNeg
    rw [hc]
set_option maxRecDepth 100000 in
theorem qX3_init {l : Launch} {b : Nat} {ca : Nat → ClassId} {D : va_G} : ck_met l b ca D yX3_init cX3_init 4 none { frames := 2, cells := 41, slots := 440, locals := 42 } 3 zX3_init := by
  refine ck_meth (by decide) (by first | exact Or.inl rfl | exact Or.inr rfl) (by decide) jkX3_init cnX3_in ?_ (fun avs σ G hlen hf hG => jX3_init avs σ G hf hG)
  intro p e s m args below meth c Qw S hname hT hnw
  refine List.forall_mem_cons.mpr ⟨ck_obj_ok S.1 S.2.1 S.2.2.1 S.2.2.2.2 S.2.2.2.1 (by decide +kernel) (by decide +kernel) (by decide +kernel) ⟨by decide, by decide⟩, ?_⟩
  refine List.forall_mem_cons.mpr ⟨ck_max_ok ⟨_, S, by decide +kernel⟩ ⟨by decide, by decide⟩, ?_⟩
  refine List.forall_mem_cons.mpr ⟨ck_newq_ok (C := "StreamWires$Frame") (t0 := 3) S.1 S.2.1 S.2.2.2.2 S.2.2.2.1 hT (by decide +kernel) hnw.2.2 rfl, ?_⟩
  refine List.forall_mem_cons.mpr ⟨ck_put_ok S.1 S.2.1 S.2.2.2.2 S.2.2.2.1 hT (by decide) (by decide) (by decide +kernel) hname rfl, ?_⟩
  refine List.forall_mem_cons.mpr ⟨ck_get_ok S.1 S.2.1 S.2.2.2.2 S.2.2.2.1 hT (by decide) (by decide) (by decide +kernel), ?_⟩
  refine List.forall_mem_cons.mpr ⟨ck_len_ok S.1 S.2.1 hT, ?_⟩
  refine List.forall_mem_cons.mpr ⟨ck_new_ok S.1 S.2.1 S.2.2.2.2 S.2.2.2.1 hT (by decide) (by decide +kernel) (by decide +kernel) (by decide +kernel), ?_⟩
  refine List.forall_mem_cons.mpr ⟨ck_callI S hT hnw (rm' := { frames := 1, cells := 1, slots := 19, locals := 21 }) qX2_init 21 (fun avs σ h => zX2_init_ob h) ⟨by decide +kernel, by decide +kernel, by decide +kernel, by decide +kernel⟩ ⟨by decide, by decide, by decide +kernel⟩ rfl ⟨by decide, by decide⟩, ?_⟩
  refine List.forall_mem_cons.mpr ⟨ck_ast_ok S.1 S.2.1 hT, ?_⟩
  exact fun q h => absurd h List.not_mem_nil
