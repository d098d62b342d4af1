/-! What is made: cells, rings of frames -/
def n_nx (M i : Nat) : Nat → Int32 := fun j => if j < i then (if j + 1 < M then nI (j + 1) else -1) else 0
theorem n_nx_s (M i : Nat) (h : i < M) : u1 (n_nx M i) i (if nI M ≤ nI (i + 1) then -1 else nI (i + 1)) = n_nx M (i + 1) ∨ 2 ^ 31 ≤ M := by
  by_cases hM : 2 ^ 31 ≤ M
  · exact Or.inr hM
  · left
    funext j
    unfold u1 n_nx
    by_cases hj : j = i
    · subst hj
      rw [if_pos rfl, if_pos (Nat.lt_succ_self j)]
      by_cases hc : j + 1 < M
      · rw [if_neg (nI_ge hc (by omega)), if_pos hc]
      · rw [if_pos (nI_le (by omega) (by omega)), if_neg hc]
    · rw [if_neg hj]
      by_cases hc : j < i
      · rw [if_pos hc, if_pos (show j < i + 1 by omega)]
      · rw [if_neg hc, if_neg (by omega)]
def n_c3 (n : Nat) : Nat → sw_V := u1 (u1 (u1 (ck_dv 0) 0 (rfv n)) 1 (rfv (n + 1))) 2 (rfv (n + 2))
def n_cb (n M i : Nat) (E : Nat → ck_E) : Nat → ck_E := u1 (u1 (u1 E n (.inr (0, M, .inl (fun _ => 0)))) (n + 1) (.inr (1, M, .inl (fun _ => 0)))) (n + 2) (.inr (0, M, .inl (n_nx M i)))
def n_cells (k n M : Nat) (E : Nat → ck_E) : Nat → ck_E := u1 (n_cb n M M E) k (.inl (0, u1 (n_c3 n) 3 (.inl 0)))
def zX0_init : ck_F := fun avs σ => match avs with
  | [.inr (some (0, k)), .inl x] => (k < σ.2 ∧ σ.1 k = .inl (0, ck_dv 0) ∧ x = nI x.toNatClampNeg ∧ 1 ≤ x.toNatClampNeg ∧ x.toNatClampNeg ≤ 2000, none, (n_cells k σ.2 x.toNatClampNeg σ.1, σ.2 + 3))
  | _ => (False, none, σ)
theorem zX0_init_of {avs : List sw_V} {σ : ck_2} (h : (zX0_init avs σ).1) : ∃ k x, avs = [.inr (some (0, k)), .inl x] := by
  unfold zX0_init at h
  split at h
  · exact ⟨_, _, rfl⟩
  · exact h.elim
theorem zX0_init_ob {avs : List sw_V} {σ : ck_2} (h : (zX0_init avs σ).1) : ∃ k tl, avs = .inr (some (0, k)) :: tl := by
  obtain ⟨k, x, rfl⟩ := zX0_init_of h
  exact ⟨k, _, rfl⟩
def jcX0_init : gs_C ck_S := [(2, 1, 1, ck_obj), (1, 7, 2, ck_max 3 6000), (4, 0, 1, ck_newa 3 6000 0), (7, 13, 2, ck_put 0 0), (12, 0, 1, ck_newa 3 6000 1), (7, 19, 2, ck_put 0 1), (7, 23, 2, ck_put 0 2), (6, 23, 1, ck_get 0 2), (9, 0, 3, ck_ist), (7, 26, 2, ck_put 0 3)]
abbrev jqX0_init (avs : List sw_V) (σ : ck_2) : Option sw_V → ck_S → Prop := fun r σ' => r = (zX0_init avs σ).2.1 ∧ σ'.1 = (zX0_init avs σ).2.2.1 ∧ σ'.2.1 = (zX0_init avs σ).2.2.2 ∧ σ'.2.2.1 ≤ 3 ∧ σ'.2.2.2 ≤ 6000 ∧ ((none : Option FieldType) = none ↔ r = none)
abbrev jwX0_init (avs : List sw_V) (σ : ck_2) (G : Nat → sw_L → List sw_V → ck_S → Prop) : Prop := ∀ stop k pc L st σ', gs_ws jcX0_init jsX0_init 69 jtX0_init (jqX0_init avs σ) G stop k pc L st σ' → G pc L st σ'
theorem jX0_loop (k n M : Nat) (E : Nat → ck_E) (G : Nat → sw_L → List sw_V → ck_S → Prop) (avs : List sw_V) (σ : ck_2) (hG : jwX0_init avs σ G) (hk : k < n) (hM : M ≤ 2000) (c s : Nat) (hd : ∀ x, G 64 [some (rfv k), some (.inl x), some (.inl (nI M)), some (.inl (nI M))] [] (u1 (n_cb n M M E) k (.inl (0, n_c3 n)), n + 3, c, s)) : ∀ (d i : Nat) (x : Int32), i + d = M → G 33 [some (rfv k), some (.inl x), some (.inl (nI M)), some (.inl (nI i))] [] (u1 (n_cb n M i E) k (.inl (0, n_c3 n)), n + 3, c, s) := by
  intro d
  induction d with
  | zero =>
    intro i x hi
    have hi : i = M := by omega
    subst hi
    refine hG (fun pc => Nat.beq pc 64) 20 33 _ _ _ (And.intro (fun _ => hd x) (fun (z : ¬ nI i ≤ nI i) => absurd (Int32.le_refl _) z))
  | succ d ih =>
    intro i x hi
    have hlt : ¬ nI M ≤ nI i := nI_ge (by omega) (by omega)
    refine hG (fun pc => Nat.beq pc 42) 20 33 _ _ _ (And.intro (fun z => absurd z hlt) (fun _ => And.intro ⟨by show k < n + 3; omega, by show (ob (u1 _ k _ k)).1 = 0; rw [u1_s]; rfl⟩ ?_))
    show G 42 [some (rfv k), some (.inl x), some (.inl (nI M)), some (.inl (nI i))] [(ob (u1 (n_cb n M i E) k (.inl (0, n_c3 n)) k)).2 2] (u1 (n_cb n M i E) k (.inl (0, n_c3 n)), n + 3, c, s)
    rw [u1_s]
    show G 42 [some (rfv k), some (.inl x), some (.inl (nI M)), some (.inl (nI i))] [rfv (n + 2)] (u1 (n_cb n M i E) k (.inl (0, n_c3 n)), n + 3, c, s)
    have e2 : u1 (n_cb n M i E) k (.inl (0, n_c3 n)) (n + 2) = .inr (0, M, .inl (n_nx M i)) := by
      rw [u1_n _ _ (by omega)]
      exact u1_s _ _ _
    have en : ∀ v, v = (if nI M ≤ nI (i + 1) then -1 else nI (i + 1)) → u1 (u1 (n_cb n M i E) k (.inl (0, n_c3 n))) (n + 2) (.inr (0, M, .inl (u1 (n_nx M i) i v))) = u1 (n_cb n M (i + 1) E) k (.inl (0, n_c3 n)) := fun v hv => by
      rw [u1_cm _ _ _ (by omega), hv]
      rcases n_nx_s M i (by omega) with z | z
      · rw [z]
        unfold n_cb
        rw [u1_uu]
      · omega
    have key : ∀ v, v = (if nI M ≤ nI (i + 1) then -1 else nI (i + 1)) → G 57 [some (rfv k), some (.inl x), some (.inl (nI M)), some (.inl (nI i))] [.inl v, .inl (nI i), rfv (n + 2)] (u1 (n_cb n M i E) k (.inl (0, n_c3 n)), n + 3, c, s) := fun v hv => by
      refine hG (fun pc => Nat.beq pc 33) 20 57 _ _ _ (And.intro ⟨?_, ?_, ?_⟩ ?_)
      · show n + 2 < n + 3
        omega
      · show u1 (n_cb n M i E) k (.inl (0, n_c3 n)) (n + 2) = .inr (0, (ar (u1 (n_cb n M i E) k (.inl (0, n_c3 n)) (n + 2))).2, .inl (ri (u1 (n_cb n M i E) k (.inl (0, n_c3 n)) (n + 2))))
        rw [e2]
        rfl
      · show vp_in (nI i) (ar (u1 (n_cb n M i E) k (.inl (0, n_c3 n)) (n + 2))).2
        rw [e2]
        exact vp_in_nI (by show i < M; omega) (by show M < 2 ^ 31; omega)
      · show G 33 [some (rfv k), some (.inl x), some (.inl (nI M)), some (.inl (nI i + 1))] [] (u1 (u1 (n_cb n M i E) k (.inl (0, n_c3 n))) (n + 2) (.inr (0, (ar (u1 (n_cb n M i E) k (.inl (0, n_c3 n)) (n + 2))).2, .inl (u1 (ri (u1 (n_cb n M i E) k (.inl (0, n_c3 n)) (n + 2))) (nI i).toNatClampNeg v))), n + 3, c, s)
        rw [e2, nI_1, nI_clamp (by omega)]
        show G 33 [some (rfv k), some (.inl x), some (.inl (nI M)), some (.inl (nI (i + 1)))] [] (u1 (u1 (n_cb n M i E) k (.inl (0, n_c3 n))) (n + 2) (.inr (0, M, .inl (u1 (n_nx M i) i v))), n + 3, c, s)
        rw [en v hv]
        exact ih (i + 1) x (by omega)
    refine hG (fun pc => Nat.beq pc 57) 20 42 _ _ _ (And.intro (fun (z : nI M ≤ nI i + 1) => key (-1) ?_) (fun (z : ¬ nI M ≤ nI i + 1) => key (nI i + 1) ?_))
    · rw [nI_1] at z
      rw [if_pos z]
    · rw [nI_1] at z
      rw [if_neg z, nI_1]
theorem max1 {M : Nat} (h : 1 ≤ M) (h2 : M < 2 ^ 31) : (if (1 : Int32) < nI M then nI M else 1) = nI M := by
  by_cases h0 : (1 : Int32) < nI M
  · rw [if_pos h0]
  · rw [if_neg h0]
    have : ¬ nI 1 < nI M := h0
    rw [nI_ltI (by decide) h2] at this
    have : M = 1 := by omega
    rw [this]
    rfl
theorem jX0_init (avs : List sw_V) (σ : ck_2) (G : Nat → sw_L → List sw_V → ck_S → Prop) (hf : (zX0_init avs σ).1) (hG : jwX0_init avs σ G) : G 0 (sw_ent 4 avs) [] (σ.1, σ.2, 0, 0) := by
  obtain ⟨k, x, rfl⟩ := zX0_init_of hf
  obtain ⟨E, n⟩ := σ
  obtain ⟨h1, h2, h3, h4, h5⟩ := hf
  have h1 : k < n := h1
  have h2 : E k = .inl (0, ck_dv 0) := h2
  obtain ⟨M, hM⟩ : ∃ M, M = x.toNatClampNeg := ⟨_, rfl⟩
  rw [← hM] at h3 h4 h5
  subst h3
  have hc : (nI M).toNatClampNeg = M := nI_clamp (by omega)
  refine hG (fun pc => Nat.beq pc 9) 20 0 _ _ _ (And.intro trivial (And.intro ⟨Nat.zero_le _, Nat.zero_le _⟩ ?_))
  show G 9 [some (rfv k), some (.inl (nI M)), none, none] [.inl (if (1 : Int32) < nI M then nI M else 1)] (E, n, 0, 0)
  rw [max1 h4 (by omega)]
  have hn0 : ¬ nI M < 0 := nI_pos (by omega)
  refine hG (fun pc => Nat.beq pc 14) 20 9 _ _ _ (And.intro ⟨hn0, by rw [hc]; omega, Nat.le_of_ble_eq_true rfl, by show 0 + (nI M).toNatClampNeg ≤ 6000; omega⟩ ?_)
  show G 14 [some (rfv k), some (.inl (nI M)), some (.inl (nI M)), none] [rfv n, rfv k] (u1 E n (.inr (0, (nI M).toNatClampNeg, .inl (fun _ => 0))), n + 1, 0 + 1, 0 + (nI M).toNatClampNeg)
  rw [hc]
  refine hG (fun pc => Nat.beq pc 17) 20 14 _ _ _ (And.intro ⟨by show k < n + 1; omega, by show (ob (u1 E n _ k)).1 = 0; rw [u1_n _ _ (by omega), h2]; rfl, _, rfl⟩ ?_)
  show G 17 [some (rfv k), some (.inl (nI M)), some (.inl (nI M)), none] [] (u1 (u1 E n (.inr (0, M, .inl (fun _ => 0)))) k (.inl (0, u1 (ob (u1 E n (.inr (0, M, .inl (fun _ => 0))) k)).2 0 (rfv n))), n + 1, 0 + 1, 0 + M)
  rw [u1_n E _ (show ¬ k = n by omega), h2]
  refine hG (fun pc => Nat.beq pc 21) 20 17 _ _ _ (And.intro ⟨hn0, by rw [hc]; omega, Nat.le_of_ble_eq_true rfl, by show 0 + M + (nI M).toNatClampNeg ≤ 6000; omega⟩ ?_)
  show G 21 [some (rfv k), some (.inl (nI M)), some (.inl (nI M)), none] [rfv (n + 1), rfv k] (u1 (u1 (u1 E n (.inr (0, M, .inl (fun _ => 0)))) k (.inl (0, u1 (ck_dv 0) 0 (rfv n)))) (n + 1) (.inr (1, (nI M).toNatClampNeg, .inl (fun _ => 0))), n + 1 + 1, 0 + 1 + 1, 0 + M + (nI M).toNatClampNeg)
  rw [hc, u1_cm _ _ _ (show ¬ k = n + 1 by omega)]
  refine hG (fun pc => Nat.beq pc 24) 20 21 _ _ _ (And.intro ⟨by show k < n + 1 + 1; omega, by show (ob (u1 _ k _ k)).1 = 0; rw [u1_s]; rfl, _, rfl⟩ ?_)
  obtain ⟨B, hB⟩ : ∃ B, B = u1 (u1 E n (.inr (0, M, .inl (fun _ => 0)))) (n + 1) (.inr (1, M, .inl (fun _ => 0))) := ⟨_, rfl⟩
  show G 24 [some (rfv k), some (.inl (nI M)), some (.inl (nI M)), none] [] (u1 (u1 (u1 (u1 E n (.inr (0, M, .inl (fun _ => 0)))) (n + 1) (.inr (1, M, .inl (fun _ => 0)))) k (.inl (0, u1 (ck_dv 0) 0 (rfv n)))) k (.inl (0, u1 (ob (u1 (u1 (u1 E n (.inr (0, M, .inl (fun _ => 0)))) (n + 1) (.inr (1, M, .inl (fun _ => 0)))) k (.inl (0, u1 (ck_dv 0) 0 (rfv n))) k)).2 1 (rfv (n + 1)))), n + 1 + 1, 0 + 1 + 1, 0 + M + M)
  rw [← hB, u1_s, u1_uu]
  show G 24 [some (rfv k), some (.inl (nI M)), some (.inl (nI M)), none] [] (u1 B k (.inl (0, u1 (u1 (ck_dv 0) 0 (rfv n)) 1 (rfv (n + 1)))), n + 1 + 1, 0 + 1 + 1, 0 + M + M)
  refine hG (fun pc => Nat.beq pc 28) 20 24 _ _ _ (And.intro ⟨hn0, by rw [hc]; omega, Nat.le_of_ble_eq_true rfl, by show 0 + M + M + (nI M).toNatClampNeg ≤ 6000; omega⟩ ?_)
  show G 28 [some (rfv k), some (.inl (nI M)), some (.inl (nI M)), none] [rfv (n + 2), rfv k] (u1 (u1 B k (.inl (0, u1 (u1 (ck_dv 0) 0 (rfv n)) 1 (rfv (n + 1))))) (n + 2) (.inr (0, (nI M).toNatClampNeg, .inl (fun _ => 0))), n + 3, 3, 0 + M + M + (nI M).toNatClampNeg)
  rw [hc, u1_cm _ _ _ (show ¬ k = n + 2 by omega)]
  refine hG (fun pc => Nat.beq pc 31) 20 28 _ _ _ (And.intro ⟨by show k < n + 3; omega, by show (ob (u1 _ k _ k)).1 = 0; rw [u1_s]; rfl, _, rfl⟩ ?_)
  show G 31 [some (rfv k), some (.inl (nI M)), some (.inl (nI M)), none] [] (u1 (u1 (u1 B (n + 2) (.inr (0, M, .inl (fun _ => 0)))) k (.inl (0, u1 (u1 (ck_dv 0) 0 (rfv n)) 1 (rfv (n + 1))))) k (.inl (0, u1 (ob (u1 (u1 B (n + 2) (.inr (0, M, .inl (fun _ => 0)))) k (.inl (0, u1 (u1 (ck_dv 0) 0 (rfv n)) 1 (rfv (n + 1)))) k)).2 2 (rfv (n + 2)))), n + 3, 3, 0 + M + M + M)
  rw [u1_s, u1_uu]
  have e0 : (fun _ : Nat => (0 : Int32)) = n_nx M 0 := by
    funext j
    exact (if_neg (Nat.not_lt_zero j)).symm
  have eB : u1 B (n + 2) (.inr (0, M, .inl (fun _ => 0))) = n_cb n M 0 E := by
    rw [hB, e0]
    unfold n_cb
    rw [← e0]
  rw [eB]
  show G 31 [some (rfv k), some (.inl (nI M)), some (.inl (nI M)), none] [] (u1 (n_cb n M 0 E) k (.inl (0, n_c3 n)), n + 3, 3, 0 + M + M + M)
  refine hG (fun pc => Nat.beq pc 33) 20 31 _ _ _ ?_
  show G 33 [some (rfv k), some (.inl (nI M)), some (.inl (nI M)), some (.inl (nI 0))] [] (u1 (n_cb n M 0 E) k (.inl (0, n_c3 n)), n + 3, 3, 0 + M + M + M)
  refine jX0_loop k n M E G _ _ hG h1 h5 3 (0 + M + M + M) (fun y => ?_) M 0 (nI M) (by omega)
  refine hG (fun _ => false) 20 64 _ _ _ (And.intro ⟨by show k < n + 3; omega, by show (ob (u1 _ k _ k)).1 = 0; rw [u1_s]; rfl, _, rfl⟩ ⟨rfl, ?_, rfl, Nat.le_of_ble_eq_true rfl, by show 0 + M + M + M ≤ 6000; omega, ck_nn⟩)
  show u1 (u1 (n_cb n M M E) k (.inl (0, n_c3 n))) k (.inl (0, u1 (ob (u1 (n_cb n M M E) k (.inl (0, n_c3 n)) k)).2 3 (.inl 0))) = n_cells k n (nI M).toNatClampNeg E
  rw [u1_s, u1_uu, hc]
  rfl
set_option maxRecDepth 100000 in
theorem qX0_init {l : Launch} {b : Nat} {ca : Nat → ClassId} {D : va_G} : ck_met l b ca D yX0_init cX0_init 4 none { frames := 1, cells := 3, slots := 6000, locals := 21 } 2 zX0_init := by
  refine ck_meth (by decide) (by first | exact Or.inl rfl | exact Or.inr rfl) (by decide) jkX0_init cnX0_in ?_ (fun avs σ G hlen hf hG => jX0_init avs σ G hf hG)
  intro p e s m args below meth c Qw S hname hT hnw
  refine List.forall_mem_cons.mpr ⟨ck_obj_ok S.1 S.2.1 S.2.2.1 S.2.2.2.2 S.2.2.2.1 (by decide +kernel) (by decide +kernel) (by decide +kernel) ⟨by decide, by decide⟩, ?_⟩
  refine List.forall_mem_cons.mpr ⟨ck_max_ok ⟨_, S, by decide +kernel⟩ ⟨by decide, by decide⟩, ?_⟩
  refine List.forall_mem_cons.mpr ⟨ck_newi_ok S.1 S.2.1 S.2.2.2.2 hT, ?_⟩
  refine List.forall_mem_cons.mpr ⟨ck_put_ok S.1 S.2.1 S.2.2.2.2 S.2.2.2.1 hT (by decide) (by decide) (by decide +kernel) hname rfl, ?_⟩
  refine List.forall_mem_cons.mpr ⟨ck_newz_ok S.1 S.2.1 S.2.2.2.2 hT, ?_⟩
  refine List.forall_mem_cons.mpr ⟨ck_put_ok S.1 S.2.1 S.2.2.2.2 S.2.2.2.1 hT (by decide) (by decide) (by decide +kernel) hname rfl, ?_⟩
  refine List.forall_mem_cons.mpr ⟨ck_put_ok S.1 S.2.1 S.2.2.2.2 S.2.2.2.1 hT (by decide) (by decide) (by decide +kernel) hname rfl, ?_⟩
  refine List.forall_mem_cons.mpr ⟨ck_get_ok S.1 S.2.1 S.2.2.2.2 S.2.2.2.1 hT (by decide) (by decide) (by decide +kernel), ?_⟩
  refine List.forall_mem_cons.mpr ⟨ck_ist_ok S.1 S.2.1 hT, ?_⟩
  refine List.forall_mem_cons.mpr ⟨ck_put_ok S.1 S.2.1 S.2.2.2.2 S.2.2.2.1 hT (by decide) (by decide) (by decide +kernel) hname rfl, ?_⟩
  exact fun q h => absurd h List.not_mem_nil
