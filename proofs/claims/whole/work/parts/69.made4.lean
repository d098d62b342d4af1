/-! What is made: flows, limits, cells -/
def n_fv (n : Nat) (kept : Int32) : Nat → sw_V := u1 (u1 (u1 (u1 (u1 (ck_dv 1) 3 (.inl 0)) 4 (.inl 1)) 0 (rfv n)) 1 (rfv (n + 1))) 2 (.inl kept)
def n_flow (k n : Nat) (q : sw_V) (kept : Int32) (E : Nat → ck_E) : Nat → ck_E := u1 (u1 (u1 E n (.inl (5, n_qv q))) (n + 1) (.inl (5, n_qv q))) k (.inl (1, n_fv n kept))
def zX1_init : ck_F := fun avs σ => match avs with
  | [.inr (some (0, k)), .inr (some q), .inl x] => (k < σ.2 ∧ σ.1 k = .inl (1, ck_dv 1), none, (n_flow k σ.2 (.inr (some q)) x σ.1, σ.2 + 2))
  | _ => (False, none, σ)
theorem zX1_init_of {avs : List sw_V} {σ : ck_2} (h : (zX1_init avs σ).1) : ∃ k q x, avs = [.inr (some (0, k)), .inr (some q), .inl x] := by
  unfold zX1_init at h
  split at h
  · exact ⟨_, _, _, rfl⟩
  · exact h.elim
theorem zX1_init_ob {avs : List sw_V} {σ : ck_2} (h : (zX1_init avs σ).1) : ∃ k tl, avs = .inr (some (0, k)) :: tl := by
  obtain ⟨k, q, x, rfl⟩ := zX1_init_of h
  exact ⟨k, _, rfl⟩
def jcX1_init : gs_C ck_S := [(2, 3, 1, ck_obj), (7, 9, 2, ck_put 1 3), (7, 15, 2, ck_put 1 4), (3, 18, 0, ck_new 2 8 5), (2, 20, 2, ck_cf 2 8 0 0 zX5_init), (7, 23, 2, ck_put 1 0), (7, 27, 2, ck_put 1 1), (7, 30, 2, ck_put 1 2)]
abbrev jqX1_init (avs : List sw_V) (σ : ck_2) : Option sw_V → ck_S → Prop := fun r σ' => r = (zX1_init avs σ).2.1 ∧ σ'.1 = (zX1_init avs σ).2.2.1 ∧ σ'.2.1 = (zX1_init avs σ).2.2.2 ∧ σ'.2.2.1 ≤ 2 ∧ σ'.2.2.2 ≤ 8 ∧ ((none : Option FieldType) = none ↔ r = none)
abbrev jwX1_init (avs : List sw_V) (σ : ck_2) (G : Nat → sw_L → List sw_V → ck_S → Prop) : Prop := ∀ stop k pc L st σ', gs_ws jcX1_init jsX1_init 43 jtX1_init (jqX1_init avs σ) G stop k pc L st σ' → G pc L st σ'
theorem jX1_init (avs : List sw_V) (σ : ck_2) (G : Nat → sw_L → List sw_V → ck_S → Prop) (hf : (zX1_init avs σ).1) (hG : jwX1_init avs σ G) : G 0 (sw_ent 3 avs) [] (σ.1, σ.2, 0, 0) := by
  obtain ⟨k, q, x, rfl⟩ := zX1_init_of hf
  obtain ⟨E, n⟩ := σ
  obtain ⟨h1, h2⟩ := hf
  have h1 : k < n := h1
  have h2 : E k = .inl (1, ck_dv 1) := h2
  have hkn : ¬ k = n := by omega
  have hkn1 : ¬ k = n + 1 := by omega
  refine hG (fun pc => Nat.beq pc 9) 20 0 _ _ _ (And.intro trivial (And.intro ⟨h1, by show (ob (E k)).1 = 1; rw [h2]; rfl, _, rfl⟩ ?_))
  show G 9 [some (rfv k), some (.inr (some q)), some (.inl x)] [] (u1 E k (.inl (1, u1 (ob (E k)).2 3 (.inl 0))), n, 0, 0)
  rw [h2]
  refine hG (fun pc => Nat.beq pc 14) 20 9 _ _ _ (And.intro ⟨h1, by show (ob (u1 E k _ k)).1 = 1; rw [u1_s]; rfl, _, rfl⟩ ?_)
  show G 14 [some (rfv k), some (.inr (some q)), some (.inl x)] [] (u1 (u1 E k (.inl (1, u1 (ck_dv 1) 3 (.inl 0)))) k (.inl (1, u1 (ob (u1 E k (.inl (1, u1 (ck_dv 1) 3 (.inl 0))) k)).2 4 (.inl 1))), n, 0, 0)
  rw [u1_s, u1_uu]
  obtain ⟨f2, hf2⟩ : ∃ f2, f2 = u1 (u1 (ck_dv 1) 3 (.inl 0)) 4 (.inl 1) := ⟨_, rfl⟩
  show G 14 [some (rfv k), some (.inr (some q)), some (.inl x)] [] (u1 E k (.inl (1, u1 (u1 (ck_dv 1) 3 (.inl 0)) 4 (.inl 1))), n, 0, 0)
  rw [← hf2]
  refine hG (fun pc => Nat.beq pc 23) 20 14 _ _ _ (And.intro ⟨Nat.le_of_ble_eq_true rfl, Nat.le_of_ble_eq_true rfl⟩ (And.intro ⟨⟨Nat.lt_succ_self n, by show u1 _ n _ n = _; rw [u1_s]⟩, Nat.le_of_ble_eq_true rfl, Nat.le_of_ble_eq_true rfl⟩ ?_))
  show G 23 [some (rfv k), some (.inr (some q)), some (.inl x)] [rfv n, rfv k] (u1 (u1 (u1 E k (.inl (1, f2))) n (.inl (5, ck_dv 5))) n (.inl (5, n_qv (.inr (some q)))), n + 1, 1, 4)
  rw [u1_uu, u1_cm _ _ _ hkn]
  refine hG (fun pc => Nat.beq pc 26) 20 23 _ _ _ (And.intro ⟨Nat.lt_succ_of_lt h1, by show (ob (u1 _ k _ k)).1 = 1; rw [u1_s]; rfl, _, rfl⟩ ?_)
  show G 26 [some (rfv k), some (.inr (some q)), some (.inl x)] [] (u1 (u1 (u1 E n (.inl (5, n_qv (.inr (some q))))) k (.inl (1, f2))) k (.inl (1, u1 (ob (u1 (u1 E n (.inl (5, n_qv (.inr (some q))))) k (.inl (1, f2)) k)).2 0 (rfv n))), n + 1, 1, 4)
  rw [u1_s, u1_uu]
  show G 26 [some (rfv k), some (.inr (some q)), some (.inl x)] [] (u1 (u1 E n (.inl (5, n_qv (.inr (some q))))) k (.inl (1, u1 f2 0 (rfv n))), n + 1, 1, 4)
  refine hG (fun pc => Nat.beq pc 35) 20 26 _ _ _ (And.intro ⟨Nat.le_of_ble_eq_true rfl, Nat.le_of_ble_eq_true rfl⟩ (And.intro ⟨⟨Nat.lt_succ_self (n + 1), by show u1 _ (n + 1) _ (n + 1) = _; rw [u1_s]⟩, Nat.le_of_ble_eq_true rfl, Nat.le_of_ble_eq_true rfl⟩ ?_))
  show G 35 [some (rfv k), some (.inr (some q)), some (.inl x)] [rfv (n + 1), rfv k] (u1 (u1 (u1 (u1 E n (.inl (5, n_qv (.inr (some q))))) k (.inl (1, u1 f2 0 (rfv n)))) (n + 1) (.inl (5, ck_dv 5))) (n + 1) (.inl (5, n_qv (.inr (some q)))), n + 1 + 1, 2, 8)
  rw [u1_uu, u1_cm _ _ _ hkn1]
  refine hG (fun pc => Nat.beq pc 38) 20 35 _ _ _ (And.intro ⟨by show k < n + 1 + 1; omega, by show (ob (u1 _ k _ k)).1 = 1; rw [u1_s]; rfl, _, rfl⟩ ?_)
  obtain ⟨B, hB⟩ : ∃ B, B = u1 (u1 E n (.inl (5, n_qv (.inr (some q))))) (n + 1) (.inl (5, n_qv (.inr (some q)))) := ⟨_, rfl⟩
  show G 38 [some (rfv k), some (.inr (some q)), some (.inl x)] [] (u1 (u1 (u1 (u1 E n (.inl (5, n_qv (.inr (some q))))) (n + 1) (.inl (5, n_qv (.inr (some q))))) k (.inl (1, u1 f2 0 (rfv n)))) k (.inl (1, u1 (ob (u1 (u1 (u1 E n (.inl (5, n_qv (.inr (some q))))) (n + 1) (.inl (5, n_qv (.inr (some q))))) k (.inl (1, u1 f2 0 (rfv n))) k)).2 1 (rfv (n + 1)))), n + 1 + 1, 2, 8)
  rw [← hB, u1_s, u1_uu]
  show G 38 [some (rfv k), some (.inr (some q)), some (.inl x)] [] (u1 B k (.inl (1, u1 (u1 f2 0 (rfv n)) 1 (rfv (n + 1)))), n + 1 + 1, 2, 8)
  refine hG (fun _ => false) 20 38 _ _ _ (And.intro ⟨by show k < n + 1 + 1; omega, by show (ob (u1 _ k _ k)).1 = 1; rw [u1_s]; rfl, _, rfl⟩ ⟨rfl, ?_, rfl, Nat.le_of_ble_eq_true rfl, Nat.le_of_ble_eq_true rfl, ck_nn⟩)
  show u1 (u1 B k (.inl (1, u1 (u1 f2 0 (rfv n)) 1 (rfv (n + 1))))) k (.inl (1, u1 (ob (u1 B k (.inl (1, u1 (u1 f2 0 (rfv n)) 1 (rfv (n + 1)))) k)).2 2 (.inl x))) = n_flow k n (.inr (some q)) x E
  rw [u1_s, u1_uu, hB, hf2]
  rfl
set_option maxRecDepth 100000 in
theorem qX1_init {l : Launch} {b : Nat} {ca : Nat → ClassId} {D : va_G} : ck_met l b ca D yX1_init cX1_init 3 none { frames := 2, cells := 2, slots := 8, locals := 41 } 3 zX1_init := by
  refine ck_meth (by decide) (by first | exact Or.inl rfl | exact Or.inr rfl) (by decide) jkX1_init cnX1_in ?_ (fun avs σ G hlen hf hG => jX1_init avs σ G hf hG)
  intro p e s m args below meth c Qw S hname hT hnw
  refine List.forall_mem_cons.mpr ⟨ck_obj_ok S.1 S.2.1 S.2.2.1 S.2.2.2.2 S.2.2.2.1 (by decide +kernel) (by decide +kernel) (by decide +kernel) ⟨by decide, by decide⟩, ?_⟩
  refine List.forall_mem_cons.mpr ⟨ck_put_ok S.1 S.2.1 S.2.2.2.2 S.2.2.2.1 hT (by decide) (by decide) (by decide +kernel) hname rfl, ?_⟩
  refine List.forall_mem_cons.mpr ⟨ck_put_ok S.1 S.2.1 S.2.2.2.2 S.2.2.2.1 hT (by decide) (by decide) (by decide +kernel) hname rfl, ?_⟩
  refine List.forall_mem_cons.mpr ⟨ck_new_ok S.1 S.2.1 S.2.2.2.2 S.2.2.2.1 hT (by decide) (by decide +kernel) (by decide +kernel) (by decide +kernel), ?_⟩
  refine List.forall_mem_cons.mpr ⟨ck_callI S hT hnw (rm' := { frames := 1, cells := 0, slots := 0, locals := 20 }) qX5_init 20 (fun avs σ h => zX5_init_ob h) ⟨by decide +kernel, by decide +kernel, by decide +kernel, by decide +kernel⟩ ⟨by decide, by decide, by decide +kernel⟩ rfl ⟨by decide, by decide⟩, ?_⟩
  refine List.forall_mem_cons.mpr ⟨ck_put_ok S.1 S.2.1 S.2.2.2.2 S.2.2.2.1 hT (by decide) (by decide) (by decide +kernel) hname rfl, ?_⟩
  refine List.forall_mem_cons.mpr ⟨ck_put_ok S.1 S.2.1 S.2.2.2.2 S.2.2.2.1 hT (by decide) (by decide) (by decide +kernel) hname rfl, ?_⟩
  refine List.forall_mem_cons.mpr ⟨ck_put_ok S.1 S.2.1 S.2.2.2.2 S.2.2.2.1 hT (by decide) (by decide) (by decide +kernel) hname rfl, ?_⟩
  exact fun q h => absurd h List.not_mem_nil
/-! the limits -/
def n_kept (v0 v3 : Int32) : Int32 := if 1 < v3 / (2 * v0) then v3 / (2 * v0) else 1
def n_l5 (v0 v1 v2 v3 v4 : Int32) : Nat → sw_V := u1 (u1 (u1 (u1 (u1 (ck_dv 4) 0 (.inl v0)) 1 (.inl v1)) 2 (.inl v2)) 3 (.inl v3)) 4 (.inl v4)
def n_lim (v0 v1 v2 v3 v4 : Int32) : Nat → sw_V := u1 (n_l5 v0 v1 v2 v3 v4) 5 (.inl (n_kept v0 v3))
def zX4_init : ck_F := fun avs σ => match avs with
  | [.inr (some (0, k)), .inl a0, .inl a1, .inl a2, .inl a3, .inl a4] => (k < σ.2 ∧ σ.1 k = .inl (4, ck_dv 4) ∧ ¬ 2 * wit7 a0 1 8 = 0, none, (u1 σ.1 k (.inl (4, n_lim (wit7 a0 1 8) (wit7 a1 1 16) (wit7 a2 1 15) (wit7 a3 4 400) (wit7 a4 1 20))), σ.2))
  | _ => (False, none, σ)
theorem zX4_init_of {avs : List sw_V} {σ : ck_2} (h : (zX4_init avs σ).1) : ∃ k a0 a1 a2 a3 a4, avs = [.inr (some (0, k)), .inl a0, .inl a1, .inl a2, .inl a3, .inl a4] := by
  unfold zX4_init at h
  split at h
  · exact ⟨_, _, _, _, _, _, rfl⟩
  · exact h.elim
theorem zX4_init_ob {avs : List sw_V} {σ : ck_2} (h : (zX4_init avs σ).1) : ∃ k tl, avs = .inr (some (0, k)) :: tl := by
  obtain ⟨k, _, _, _, _, _, rfl⟩ := zX4_init_of h
  exact ⟨k, _, rfl⟩
def jcX4_init : gs_C ck_S := [(2, 1, 1, ck_obj), (1, 7, 3, ck_cf 0 0 0 0 zX7_within), (7, 13, 2, ck_put 4 0), (7, 19, 2, ck_put 4 1), (7, 22, 2, ck_put 4 2), (7, 25, 2, ck_put 4 3), (7, 28, 2, ck_put 4 4), (6, 25, 1, ck_get 4 3), (6, 13, 1, ck_get 4 0), (1, 31, 2, ck_max 0 0), (7, 37, 2, ck_put 4 5)]
abbrev jqX4_init (avs : List sw_V) (σ : ck_2) : Option sw_V → ck_S → Prop := fun r σ' => r = (zX4_init avs σ).2.1 ∧ σ'.1 = (zX4_init avs σ).2.2.1 ∧ σ'.2.1 = (zX4_init avs σ).2.2.2 ∧ σ'.2.2.1 ≤ 0 ∧ σ'.2.2.2 ≤ 0 ∧ ((none : Option FieldType) = none ↔ r = none)
abbrev jwX4_init (avs : List sw_V) (σ : ck_2) (G : Nat → sw_L → List sw_V → ck_S → Prop) : Prop := ∀ stop k pc L st σ', gs_ws jcX4_init jsX4_init 81 jtX4_init (jqX4_init avs σ) G stop k pc L st σ' → G pc L st σ'
theorem jX4_init (avs : List sw_V) (σ : ck_2) (G : Nat → sw_L → List sw_V → ck_S → Prop) (hf : (zX4_init avs σ).1) (hG : jwX4_init avs σ G) : G 0 (sw_ent 6 avs) [] (σ.1, σ.2, 0, 0) := by
  obtain ⟨k, a0, a1, a2, a3, a4, rfl⟩ := zX4_init_of hf
  obtain ⟨E, n⟩ := σ
  obtain ⟨h1, h2, h3⟩ := hf
  have h1 : k < n := h1
  have h2 : E k = .inl (4, ck_dv 4) := h2
  obtain ⟨L, hL⟩ : ∃ L : sw_L, L = [some (rfv k), some (.inl a0), some (.inl a1), some (.inl a2), some (.inl a3), some (.inl a4)] := ⟨_, rfl⟩
  have hz : (0 : Nat) + 0 ≤ 0 := Nat.le_refl _
  refine hG (fun pc => Nat.beq pc 15) 20 0 _ _ _ (And.intro trivial (And.intro ⟨trivial, hz, hz⟩ (And.intro ⟨h1, by show (ob (E k)).1 = 4; rw [h2]; rfl, _, rfl⟩ ?_)))
  show G 15 [some (rfv k), some (.inl a0), some (.inl a1), some (.inl a2), some (.inl a3), some (.inl a4)] [] (u1 E k (.inl (4, u1 (ob (E k)).2 0 (.inl (wit7 a0 1 8)))), n, 0, 0)
  rw [h2]
  refine hG (fun pc => Nat.beq pc 26) 20 15 _ _ _ (And.intro ⟨trivial, hz, hz⟩ (And.intro ⟨h1, by show (ob (u1 E k _ k)).1 = 4; rw [u1_s]; rfl, _, rfl⟩ ?_))
  show G 26 [some (rfv k), some (.inl a0), some (.inl a1), some (.inl a2), some (.inl a3), some (.inl a4)] [] (u1 (u1 E k (.inl (4, u1 (ck_dv 4) 0 (.inl (wit7 a0 1 8))))) k (.inl (4, u1 (ob (u1 E k (.inl (4, u1 (ck_dv 4) 0 (.inl (wit7 a0 1 8)))) k)).2 1 (.inl (wit7 a1 1 16)))), n, 0, 0)
  rw [u1_s, u1_uu]
  obtain ⟨g2, hg2⟩ : ∃ g2, g2 = u1 (u1 (ck_dv 4) 0 (.inl (wit7 a0 1 8))) 1 (.inl (wit7 a1 1 16)) := ⟨_, rfl⟩
  show G 26 [some (rfv k), some (.inl a0), some (.inl a1), some (.inl a2), some (.inl a3), some (.inl a4)] [] (u1 E k (.inl (4, u1 (u1 (ck_dv 4) 0 (.inl (wit7 a0 1 8))) 1 (.inl (wit7 a1 1 16)))), n, 0, 0)
  rw [← hg2]
  refine hG (fun pc => Nat.beq pc 37) 20 26 _ _ _ (And.intro ⟨trivial, hz, hz⟩ (And.intro ⟨h1, by show (ob (u1 E k _ k)).1 = 4; rw [u1_s]; rfl, _, rfl⟩ ?_))
  show G 37 [some (rfv k), some (.inl a0), some (.inl a1), some (.inl a2), some (.inl a3), some (.inl a4)] [] (u1 (u1 E k (.inl (4, g2))) k (.inl (4, u1 (ob (u1 E k (.inl (4, g2)) k)).2 2 (.inl (wit7 a2 1 15)))), n, 0, 0)
  rw [u1_s, u1_uu]
  show G 37 [some (rfv k), some (.inl a0), some (.inl a1), some (.inl a2), some (.inl a3), some (.inl a4)] [] (u1 E k (.inl (4, u1 g2 2 (.inl (wit7 a2 1 15)))), n, 0, 0)
  refine hG (fun pc => Nat.beq pc 50) 20 37 _ _ _ (And.intro ⟨trivial, hz, hz⟩ (And.intro ⟨h1, by show (ob (u1 E k _ k)).1 = 4; rw [u1_s]; rfl, _, rfl⟩ ?_))
  show G 50 [some (rfv k), some (.inl a0), some (.inl a1), some (.inl a2), some (.inl a3), some (.inl a4)] [] (u1 (u1 E k (.inl (4, u1 g2 2 (.inl (wit7 a2 1 15))))) k (.inl (4, u1 (ob (u1 E k (.inl (4, u1 g2 2 (.inl (wit7 a2 1 15)))) k)).2 3 (.inl (wit7 a3 4 400)))), n, 0, 0)
  rw [u1_s, u1_uu]
  show G 50 [some (rfv k), some (.inl a0), some (.inl a1), some (.inl a2), some (.inl a3), some (.inl a4)] [] (u1 E k (.inl (4, u1 (u1 g2 2 (.inl (wit7 a2 1 15))) 3 (.inl (wit7 a3 4 400)))), n, 0, 0)
  refine hG (fun pc => Nat.beq pc 62) 20 50 _ _ _ (And.intro ⟨trivial, hz, hz⟩ (And.intro ⟨h1, by show (ob (u1 E k _ k)).1 = 4; rw [u1_s]; rfl, _, rfl⟩ ?_))
  show G 62 [some (rfv k), some (.inl a0), some (.inl a1), some (.inl a2), some (.inl a3), some (.inl a4)] [] (u1 (u1 E k (.inl (4, u1 (u1 g2 2 (.inl (wit7 a2 1 15))) 3 (.inl (wit7 a3 4 400))))) k (.inl (4, u1 (ob (u1 E k (.inl (4, u1 (u1 g2 2 (.inl (wit7 a2 1 15))) 3 (.inl (wit7 a3 4 400)))) k)).2 4 (.inl (wit7 a4 1 20)))), n, 0, 0)
  rw [u1_s, u1_uu, hg2]
  obtain ⟨g5, hg5⟩ : ∃ g5, g5 = n_l5 (wit7 a0 1 8) (wit7 a1 1 16) (wit7 a2 1 15) (wit7 a3 4 400) (wit7 a4 1 20) := ⟨_, rfl⟩
  show G 62 [some (rfv k), some (.inl a0), some (.inl a1), some (.inl a2), some (.inl a3), some (.inl a4)] [] (u1 E k (.inl (4, n_l5 (wit7 a0 1 8) (wit7 a1 1 16) (wit7 a2 1 15) (wit7 a3 4 400) (wit7 a4 1 20))), n, 0, 0)
  have e3 : g5 3 = .inl (wit7 a3 4 400) := by rw [hg5]; rfl
  have e0 : g5 0 = .inl (wit7 a0 1 8) := by rw [hg5]; rfl
  rw [← hg5]
  refine hG (fun pc => Nat.beq pc 68) 20 62 _ _ _ (And.intro ⟨h1, by show (ob (u1 E k _ k)).1 = 4; rw [u1_s]; rfl⟩ ?_)
  show G 68 [some (rfv k), some (.inl a0), some (.inl a1), some (.inl a2), some (.inl a3), some (.inl a4)] [(ob (u1 E k (.inl (4, g5)) k)).2 3, .inl 1, rfv k] (u1 E k (.inl (4, g5)), n, 0, 0)
  rw [u1_s]
  show G 68 [some (rfv k), some (.inl a0), some (.inl a1), some (.inl a2), some (.inl a3), some (.inl a4)] [g5 3, .inl 1, rfv k] (u1 E k (.inl (4, g5)), n, 0, 0)
  rw [e3]
  refine hG (fun pc => Nat.beq pc 73) 20 68 _ _ _ (And.intro ⟨h1, by show (ob (u1 E k _ k)).1 = 4; rw [u1_s]; rfl⟩ ?_)
  show G 73 [some (rfv k), some (.inl a0), some (.inl a1), some (.inl a2), some (.inl a3), some (.inl a4)] [(ob (u1 E k (.inl (4, g5)) k)).2 0, .inl 2, .inl (wit7 a3 4 400), .inl 1, rfv k] (u1 E k (.inl (4, g5)), n, 0, 0)
  rw [u1_s]
  show G 73 [some (rfv k), some (.inl a0), some (.inl a1), some (.inl a2), some (.inl a3), some (.inl a4)] [g5 0, .inl 2, .inl (wit7 a3 4 400), .inl 1, rfv k] (u1 E k (.inl (4, g5)), n, 0, 0)
  rw [e0]
  refine hG (fun _ => false) 20 73 _ _ _ (And.intro h3 (And.intro ⟨hz, hz⟩ (And.intro ⟨h1, by show (ob (u1 E k _ k)).1 = 4; rw [u1_s]; rfl, _, rfl⟩ ⟨rfl, ?_, rfl, hz, hz, ck_nn⟩)))
  show u1 (u1 E k (.inl (4, g5))) k (.inl (4, u1 (ob (u1 E k (.inl (4, g5)) k)).2 5 (.inl (n_kept (wit7 a0 1 8) (wit7 a3 4 400))))) = u1 E k (.inl (4, n_lim (wit7 a0 1 8) (wit7 a1 1 16) (wit7 a2 1 15) (wit7 a3 4 400) (wit7 a4 1 20)))
  rw [u1_s, u1_uu, hg5]
  rfl
set_option maxRecDepth 100000 in
theorem qX4_init {l : Launch} {b : Nat} {ca : Nat → ClassId} {D : va_G} : ck_met l b ca D yX4_init cX4_init 6 none { frames := 2, cells := 0, slots := 0, locals := 43 } 6 zX4_init := by
  refine ck_meth (by decide) (by first | exact Or.inl rfl | exact Or.inr rfl) (by decide) jkX4_init cnX4_in ?_ (fun avs σ G hlen hf hG => jX4_init avs σ G hf hG)
  intro p e s m args below meth c Qw S hname hT hnw
  refine List.forall_mem_cons.mpr ⟨ck_obj_ok S.1 S.2.1 S.2.2.1 S.2.2.2.2 S.2.2.2.1 (by decide +kernel) (by decide +kernel) (by decide +kernel) ⟨by decide, by decide⟩, ?_⟩
  refine List.forall_mem_cons.mpr ⟨ck_callN S hT hnw (rm' := { frames := 1, cells := 0, slots := 0, locals := 21 }) qX7_within 7 hnw.1 ⟨by decide +kernel, by decide +kernel, by decide +kernel⟩ ⟨by decide, by decide, by decide +kernel⟩ ⟨by decide, by decide⟩, ?_⟩
  refine List.forall_mem_cons.mpr ⟨ck_put_ok S.1 S.2.1 S.2.2.2.2 S.2.2.2.1 hT (by decide) (by decide) (by decide +kernel) hname rfl, ?_⟩
  refine List.forall_mem_cons.mpr ⟨ck_put_ok S.1 S.2.1 S.2.2.2.2 S.2.2.2.1 hT (by decide) (by decide) (by decide +kernel) hname rfl, ?_⟩
  refine List.forall_mem_cons.mpr ⟨ck_put_ok S.1 S.2.1 S.2.2.2.2 S.2.2.2.1 hT (by decide) (by decide) (by decide +kernel) hname rfl, ?_⟩
  refine List.forall_mem_cons.mpr ⟨ck_put_ok S.1 S.2.1 S.2.2.2.2 S.2.2.2.1 hT (by decide) (by decide) (by decide +kernel) hname rfl, ?_⟩
  refine List.forall_mem_cons.mpr ⟨ck_put_ok S.1 S.2.1 S.2.2.2.2 S.2.2.2.1 hT (by decide) (by decide) (by decide +kernel) hname rfl, ?_⟩
  refine List.forall_mem_cons.mpr ⟨ck_get_ok S.1 S.2.1 S.2.2.2.2 S.2.2.2.1 hT (by decide) (by decide) (by decide +kernel), ?_⟩
  refine List.forall_mem_cons.mpr ⟨ck_get_ok S.1 S.2.1 S.2.2.2.2 S.2.2.2.1 hT (by decide) (by decide) (by decide +kernel), ?_⟩
  refine List.forall_mem_cons.mpr ⟨ck_max_ok ⟨_, S, by decide +kernel⟩ ⟨by decide, by decide⟩, ?_⟩
  refine List.forall_mem_cons.mpr ⟨ck_put_ok S.1 S.2.1 S.2.2.2.2 S.2.2.2.1 hT (by decide) (by decide) (by decide +kernel) hname rfl, ?_⟩
  exact fun q h => absurd h List.not_mem_nil
