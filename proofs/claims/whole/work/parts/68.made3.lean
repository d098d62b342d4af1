/-! What is made: a number brought to what is allowed; frames, queues, flows, limits -/
def rfv (i : Nat) : sw_V := .inr (some (0, i))
def gi : sw_V → Int32
  | .inl x => x
  | _ => 0
theorem u1_uu {α : Type} (f : Nat → α) (x : Nat) (v v' : α) : u1 (u1 f x v) x v' = u1 f x v' := by
  funext y
  unfold u1
  split <;> rfl
theorem u1_cm {α : Type} (f : Nat → α) {x y : Nat} (v w : α) (h : ¬ x = y) : u1 (u1 f x v) y w = u1 (u1 f y w) x v := by
  funext z
  unfold u1
  by_cases h1 : z = x
  · subst h1
    rw [if_neg h, if_pos rfl, if_pos rfl]
  · rw [if_neg h1, if_neg h1]
theorem ck_in (x : sw_V) : (some FieldType.int : Option FieldType) = none ↔ (some x : Option sw_V) = none := ⟨(fun h => nomatch h), (fun h => nomatch h)⟩
theorem ck_nn : (none : Option FieldType) = none ↔ (none : Option sw_V) = none := ⟨fun _ => rfl, fun _ => rfl⟩
def wit7 (v a c : Int32) : Int32 := if a < (if v < c then v else c) then (if v < c then v else c) else a
def zX7_within : ck_F := fun avs σ => match avs with
  | [.inl v, .inl a, .inl c] => (True, some (.inl (wit7 v a c)), σ)
  | _ => (False, none, σ)
def jcX7_within : gs_C ck_S := [(1, 106, 2, ck_min 0 0), (1, 112, 2, ck_max 0 0)]
abbrev jqX7_within (avs : List sw_V) (σ : ck_2) : Option sw_V → ck_S → Prop := fun r σ' => r = (zX7_within avs σ).2.1 ∧ σ'.1 = (zX7_within avs σ).2.2.1 ∧ σ'.2.1 = (zX7_within avs σ).2.2.2 ∧ σ'.2.2.1 ≤ 0 ∧ σ'.2.2.2 ≤ 0 ∧ ((some FieldType.int : Option FieldType) = none ↔ r = none)
abbrev jwX7_within (avs : List sw_V) (σ : ck_2) (G : Nat → sw_L → List sw_V → ck_S → Prop) : Prop := ∀ stop k pc L st σ', gs_ws jcX7_within jsX7_within 9 jtX7_within (jqX7_within avs σ) G stop k pc L st σ' → G pc L st σ'
theorem jX7_within (avs : List sw_V) (σ : ck_2) (G : Nat → sw_L → List sw_V → ck_S → Prop) (hf : (zX7_within avs σ).1) (hG : jwX7_within avs σ G) : G 0 (sw_ent 3 avs) [] (σ.1, σ.2, 0, 0) := by
  obtain ⟨v, a, c, rfl⟩ : ∃ v a c, avs = [.inl v, .inl a, .inl c] := by
    unfold zX7_within at hf
    split at hf
    · exact ⟨_, _, _, rfl⟩
    · exact hf.elim
  refine hG (fun _ => false) 20 0 _ _ _ ?_
  exact And.intro ⟨Nat.le_refl _, Nat.le_refl _⟩ (And.intro ⟨Nat.le_refl _, Nat.le_refl _⟩ ⟨rfl, rfl, rfl, Nat.le_refl _, Nat.le_refl _, ck_in _⟩)
set_option maxRecDepth 100000 in
theorem qX7_within {l : Launch} {b : Nat} {ca : Nat → ClassId} {D : va_G} : ck_met l b ca D yX7_within cX7_within 3 (some .int) { frames := 1, cells := 0, slots := 0, locals := 21 } 3 zX7_within := by
  refine ck_meth (by decide) (by first | exact Or.inl rfl | exact Or.inr rfl) (by decide) jkX7_within cnX7_in ?_ (fun avs σ G hlen hf hG => jX7_within avs σ G hf hG)
  intro p e s m args below meth c Qw S hname hT hnw
  refine List.forall_mem_cons.mpr ⟨ck_min_ok ⟨_, S, by decide +kernel⟩ ⟨by decide, by decide⟩, ?_⟩
  refine List.forall_mem_cons.mpr ⟨ck_max_ok ⟨_, S, by decide +kernel⟩ ⟨by decide, by decide⟩, ?_⟩
  exact fun q h => absurd h List.not_mem_nil
def wit8 (v a c : Int32) : Int32 := if a ≤ v then (if v ≤ c then v else c) else a
def zX8_within : ck_F := fun avs σ => match avs with
  | [.inl v, .inl a, .inl c] => (True, some (.inl (wit8 v a c)), σ)
  | _ => (False, none, σ)
def jcX8_within : gs_C ck_S := []
abbrev jqX8_within (avs : List sw_V) (σ : ck_2) : Option sw_V → ck_S → Prop := fun r σ' => r = (zX8_within avs σ).2.1 ∧ σ'.1 = (zX8_within avs σ).2.2.1 ∧ σ'.2.1 = (zX8_within avs σ).2.2.2 ∧ σ'.2.2.1 ≤ 0 ∧ σ'.2.2.2 ≤ 0 ∧ ((some FieldType.int : Option FieldType) = none ↔ r = none)
abbrev jwX8_within (avs : List sw_V) (σ : ck_2) (G : Nat → sw_L → List sw_V → ck_S → Prop) : Prop := ∀ stop k pc L st σ', gs_ws jcX8_within jsX8_within 19 jtX8_within (jqX8_within avs σ) G stop k pc L st σ' → G pc L st σ'
theorem jX8_within (avs : List sw_V) (σ : ck_2) (G : Nat → sw_L → List sw_V → ck_S → Prop) (hf : (zX8_within avs σ).1) (hG : jwX8_within avs σ G) : G 0 (sw_ent 3 avs) [] (σ.1, σ.2, 0, 0) := by
  obtain ⟨v, a, c, rfl⟩ : ∃ v a c, avs = [.inl v, .inl a, .inl c] := by
    unfold zX8_within at hf
    split at hf
    · exact ⟨_, _, _, rfl⟩
    · exact hf.elim
  refine hG (fun _ => false) 20 0 _ _ _ ?_
  refine And.intro (fun (h : a ≤ v) => And.intro (fun (h2 : v ≤ c) => ⟨?_, rfl, rfl, Nat.le_refl _, Nat.le_refl _, ck_in _⟩) (fun (h2 : ¬ v ≤ c) => ⟨?_, rfl, rfl, Nat.le_refl _, Nat.le_refl _, ck_in _⟩)) (fun (h : ¬ a ≤ v) => ⟨?_, rfl, rfl, Nat.le_refl _, Nat.le_refl _, ck_in _⟩)
  · show some (Sum.inl v) = some (Sum.inl (wit8 v a c))
    unfold wit8
    rw [if_pos h, if_pos h2]
  · show some (Sum.inl c) = some (Sum.inl (wit8 v a c))
    unfold wit8
    rw [if_pos h, if_neg h2]
  · show some (Sum.inl a) = some (Sum.inl (wit8 v a c))
    unfold wit8
    rw [if_neg h]
set_option maxRecDepth 100000 in
theorem qX8_within {l : Launch} {b : Nat} {ca : Nat → ClassId} {D : va_G} : ck_met l b ca D yX8_within cX8_within 3 (some .int) { frames := 0, cells := 0, slots := 0, locals := 0 } 3 zX8_within := by
  refine ck_meth (by decide) (by first | exact Or.inl rfl | exact Or.inr rfl) (by decide) jkX8_within cnX8_in ?_ (fun avs σ G hlen hf hG => jX8_within avs σ G hf hG)
  intro p e s m args below meth c Qw S hname hT hnw
  exact fun q h => absurd h List.not_mem_nil
def zX4_longestFrame : ck_F := fun avs σ => match avs with
  | [.inr (some (0, k))] => (k < σ.2 ∧ (ob (σ.1 k)).1 = 4 ∧ (ob (σ.1 k)).2 1 = .inl (gi ((ob (σ.1 k)).2 1)), some (.inl (gi ((ob (σ.1 k)).2 1) + 3)), σ)
  | _ => (False, none, σ)
theorem zX4_longestFrame_of {avs : List sw_V} {σ : ck_2} (h : (zX4_longestFrame avs σ).1) : ∃ k, avs = [.inr (some (0, k))] := by
  unfold zX4_longestFrame at h
  split at h
  · exact ⟨_, rfl⟩
  · exact h.elim
theorem zX4_longestFrame_ob {avs : List sw_V} {σ : ck_2} (h : (zX4_longestFrame avs σ).1) : ∃ k tl, avs = .inr (some (0, k)) :: tl ∧ k < σ.2 ∧ (ob (σ.1 k)).1 = 4 := by
  obtain ⟨k, rfl⟩ := zX4_longestFrame_of h
  exact ⟨k, [], rfl, h.1, h.2.1⟩
def jcX4_longestFrame : gs_C ck_S := [(6, 19, 1, ck_get 4 1)]
abbrev jqX4_longestFrame (avs : List sw_V) (σ : ck_2) : Option sw_V → ck_S → Prop := fun r σ' => r = (zX4_longestFrame avs σ).2.1 ∧ σ'.1 = (zX4_longestFrame avs σ).2.2.1 ∧ σ'.2.1 = (zX4_longestFrame avs σ).2.2.2 ∧ σ'.2.2.1 ≤ 0 ∧ σ'.2.2.2 ≤ 0 ∧ ((some FieldType.int : Option FieldType) = none ↔ r = none)
abbrev jwX4_longestFrame (avs : List sw_V) (σ : ck_2) (G : Nat → sw_L → List sw_V → ck_S → Prop) : Prop := ∀ stop k pc L st σ', gs_ws jcX4_longestFrame jsX4_longestFrame 6 jtX4_longestFrame (jqX4_longestFrame avs σ) G stop k pc L st σ' → G pc L st σ'
theorem jX4_longestFrame (avs : List sw_V) (σ : ck_2) (G : Nat → sw_L → List sw_V → ck_S → Prop) (hf : (zX4_longestFrame avs σ).1) (hG : jwX4_longestFrame avs σ G) : G 0 (sw_ent 1 avs) [] (σ.1, σ.2, 0, 0) := by
  obtain ⟨k, rfl⟩ := zX4_longestFrame_of hf
  have e : (ob (σ.1 k)).2 1 = .inl (gi ((ob (σ.1 k)).2 1)) := hf.2.2
  refine hG (fun pc => Nat.beq pc 4) 10 0 _ _ _ (And.intro ⟨hf.1, hf.2.1⟩ ?_)
  show G 4 [some (rfv k)] [(ob (σ.1 k)).2 1] (σ.1, σ.2, 0, 0)
  rw [e]
  refine hG (fun _ => false) 10 4 _ _ _ ?_
  exact ⟨rfl, rfl, rfl, Nat.le_refl _, Nat.le_refl _, ck_in _⟩
set_option maxRecDepth 100000 in
theorem qX4_longestFrame {l : Launch} {b : Nat} {ca : Nat → ClassId} {D : va_G} : ck_met l b ca D yX4_longestFrame cX4_longestFrame 1 (some .int) { frames := 0, cells := 0, slots := 0, locals := 0 } 1 zX4_longestFrame := by
  refine ck_meth (by decide) (by first | exact Or.inl rfl | exact Or.inr rfl) (by decide) jkX4_longestFrame cnX4_in ?_ (fun avs σ G hlen hf hG => jX4_longestFrame avs σ G hf hG)
  intro p e s m args below meth c Qw S hname hT hnw
  refine List.forall_mem_cons.mpr ⟨ck_get_ok S.1 S.2.1 S.2.2.2.2 S.2.2.2.1 hT (by decide) (by decide) (by decide +kernel), ?_⟩
  exact fun q h => absurd h List.not_mem_nil
/-! a frame -/
def n_frame (k n L : Nat) (E : Nat → ck_E) : Nat → ck_E := u1 (u1 E n (.inr (0, L, .inl (fun _ => 0)))) k (.inl (2, u1 (ck_dv 2) 0 (rfv n)))
def zX2_init : ck_F := fun avs σ => match avs with
  | [.inr (some (0, k)), .inl x] => (k < σ.2 ∧ σ.1 k = .inl (2, ck_dv 2) ∧ ¬ x < 0 ∧ x.toNatClampNeg ≤ 19, none, (n_frame k σ.2 x.toNatClampNeg σ.1, σ.2 + 1))
  | _ => (False, none, σ)
theorem zX2_init_of {avs : List sw_V} {σ : ck_2} (h : (zX2_init avs σ).1) : ∃ k x, avs = [.inr (some (0, k)), .inl x] := by
  unfold zX2_init at h
  split at h
  · exact ⟨_, _, rfl⟩
  · exact h.elim
theorem zX2_init_ob {avs : List sw_V} {σ : ck_2} (h : (zX2_init avs σ).1) : ∃ k tl, avs = .inr (some (0, k)) :: tl := by
  obtain ⟨k, x, rfl⟩ := zX2_init_of h
  exact ⟨k, _, rfl⟩
def jcX2_init : gs_C ck_S := [(2, 3, 1, ck_obj), (1, 9, 2, ck_max 1 19), (4, 0, 1, ck_newa 1 19 0), (7, 15, 2, ck_put 2 0)]
abbrev jqX2_init (avs : List sw_V) (σ : ck_2) : Option sw_V → ck_S → Prop := fun r σ' => r = (zX2_init avs σ).2.1 ∧ σ'.1 = (zX2_init avs σ).2.2.1 ∧ σ'.2.1 = (zX2_init avs σ).2.2.2 ∧ σ'.2.2.1 ≤ 1 ∧ σ'.2.2.2 ≤ 19 ∧ ((none : Option FieldType) = none ↔ r = none)
abbrev jwX2_init (avs : List sw_V) (σ : ck_2) (G : Nat → sw_L → List sw_V → ck_S → Prop) : Prop := ∀ stop k pc L st σ', gs_ws jcX2_init jsX2_init 15 jtX2_init (jqX2_init avs σ) G stop k pc L st σ' → G pc L st σ'
theorem max0 {x : Int32} (h : ¬ x < 0) : (if (0 : Int32) < x then x else 0) = x := by
  by_cases h0 : (0 : Int32) < x
  · rw [if_pos h0]
  · rw [if_neg h0]
    exact Int32.le_antisymm (Int32.not_lt.mp h) (Int32.not_lt.mp h0)
theorem jX2_init (avs : List sw_V) (σ : ck_2) (G : Nat → sw_L → List sw_V → ck_S → Prop) (hf : (zX2_init avs σ).1) (hG : jwX2_init avs σ G) : G 0 (sw_ent 2 avs) [] (σ.1, σ.2, 0, 0) := by
  obtain ⟨k, x, rfl⟩ := zX2_init_of hf
  obtain ⟨h1, h2, h3, h4⟩ := hf
  have h1 : k < σ.2 := h1
  refine hG (fun pc => Nat.beq pc 10) 20 0 _ _ _ (And.intro trivial (And.intro ⟨Nat.le_of_ble_eq_true rfl, Nat.le_of_ble_eq_true rfl⟩ ?_))
  show G 10 [some (rfv k), some (.inl x)] [.inl (if (0 : Int32) < x then x else 0), rfv k] (σ.1, σ.2, 0, 0)
  rw [max0 h3]
  have hk : u1 σ.1 σ.2 (.inr (0, x.toNatClampNeg, .inl (fun _ => 0))) k = .inl (2, ck_dv 2) := by rw [u1_n _ _ (by omega)]; exact h2
  refine hG (fun _ => false) 20 10 _ _ _ (And.intro ⟨h3, by omega, Nat.le_of_ble_eq_true rfl, (show 0 + x.toNatClampNeg ≤ 19 by omega)⟩ (And.intro ⟨Nat.lt_succ_of_lt h1, ?_, _, rfl⟩ ⟨rfl, ?_, rfl, Nat.le_of_ble_eq_true rfl, by show 0 + x.toNatClampNeg ≤ 19; omega, ck_nn⟩))
  · show (ob (u1 σ.1 σ.2 (.inr (0, x.toNatClampNeg, .inl (fun _ => 0))) k)).1 = 2
    rw [hk]
    rfl
  · show u1 (u1 σ.1 σ.2 (.inr (0, x.toNatClampNeg, .inl (fun _ => 0)))) k (.inl (2, u1 (ob (u1 σ.1 σ.2 (.inr (0, x.toNatClampNeg, .inl (fun _ => 0))) k)).2 0 (rfv σ.2))) = n_frame k σ.2 x.toNatClampNeg σ.1
    rw [hk]
    rfl
set_option maxRecDepth 100000 in
theorem qX2_init {l : Launch} {b : Nat} {ca : Nat → ClassId} {D : va_G} : ck_met l b ca D yX2_init cX2_init 2 none { frames := 1, cells := 1, slots := 19, locals := 21 } 2 zX2_init := by
  refine ck_meth (by decide) (by first | exact Or.inl rfl | exact Or.inr rfl) (by decide) jkX2_init cnX2_in ?_ (fun avs σ G hlen hf hG => jX2_init avs σ G hf hG)
  intro p e s m args below meth c Qw S hname hT hnw
  refine List.forall_mem_cons.mpr ⟨ck_obj_ok S.1 S.2.1 S.2.2.1 S.2.2.2.2 S.2.2.2.1 (by decide +kernel) (by decide +kernel) (by decide +kernel) ⟨by decide, by decide⟩, ?_⟩
  refine List.forall_mem_cons.mpr ⟨ck_max_ok ⟨_, S, by decide +kernel⟩ ⟨by decide, by decide⟩, ?_⟩
  refine List.forall_mem_cons.mpr ⟨ck_newi_ok S.1 S.2.1 S.2.2.2.2 hT, ?_⟩
  refine List.forall_mem_cons.mpr ⟨ck_put_ok S.1 S.2.1 S.2.2.2.2 S.2.2.2.1 hT (by decide) (by decide) (by decide +kernel) hname rfl, ?_⟩
  exact fun q h => absurd h List.not_mem_nil
/-! a queue -/
def n_qv (q : sw_V) : Nat → sw_V := u1 (u1 (u1 (ck_dv 5) 1 (.inl (-1))) 2 (.inl (-1))) 0 q
def zX5_init : ck_F := fun avs σ => match avs with
  | [.inr (some (0, k)), .inr (some q)] => (k < σ.2 ∧ σ.1 k = .inl (5, ck_dv 5), none, (u1 σ.1 k (.inl (5, n_qv (.inr (some q)))), σ.2))
  | _ => (False, none, σ)
theorem zX5_init_of {avs : List sw_V} {σ : ck_2} (h : (zX5_init avs σ).1) : ∃ k q, avs = [.inr (some (0, k)), .inr (some q)] := by
  unfold zX5_init at h
  split at h
  · exact ⟨_, _, rfl⟩
  · exact h.elim
theorem zX5_init_ob {avs : List sw_V} {σ : ck_2} (h : (zX5_init avs σ).1) : ∃ k tl, avs = .inr (some (0, k)) :: tl := by
  obtain ⟨k, x, rfl⟩ := zX5_init_of h
  exact ⟨k, _, rfl⟩
def jcX5_init : gs_C ck_S := [(2, 1, 1, ck_obj), (7, 9, 2, ck_put 5 1), (7, 15, 2, ck_put 5 2), (7, 18, 2, ck_put 5 0)]
abbrev jqX5_init (avs : List sw_V) (σ : ck_2) : Option sw_V → ck_S → Prop := fun r σ' => r = (zX5_init avs σ).2.1 ∧ σ'.1 = (zX5_init avs σ).2.2.1 ∧ σ'.2.1 = (zX5_init avs σ).2.2.2 ∧ σ'.2.2.1 ≤ 0 ∧ σ'.2.2.2 ≤ 0 ∧ ((none : Option FieldType) = none ↔ r = none)
abbrev jwX5_init (avs : List sw_V) (σ : ck_2) (G : Nat → sw_L → List sw_V → ck_S → Prop) : Prop := ∀ stop k pc L st σ', gs_ws jcX5_init jsX5_init 19 jtX5_init (jqX5_init avs σ) G stop k pc L st σ' → G pc L st σ'
theorem jX5_init (avs : List sw_V) (σ : ck_2) (G : Nat → sw_L → List sw_V → ck_S → Prop) (hf : (zX5_init avs σ).1) (hG : jwX5_init avs σ G) : G 0 (sw_ent 2 avs) [] (σ.1, σ.2, 0, 0) := by
  obtain ⟨k, q, rfl⟩ := zX5_init_of hf
  obtain ⟨h1, h2⟩ := hf
  have h1 : k < σ.2 := h1
  have h2 : σ.1 k = .inl (5, ck_dv 5) := h2
  refine hG (fun pc => Nat.beq pc 9) 20 0 _ _ _ (And.intro trivial (And.intro ⟨h1, by show (ob (σ.1 k)).1 = 5; rw [h2]; rfl, _, rfl⟩ ?_))
  show G 9 [some (rfv k), some (.inr (some q))] [] (u1 σ.1 k (.inl (5, u1 (ob (σ.1 k)).2 1 (.inl (-1)))), σ.2, 0, 0)
  rw [h2]
  refine hG (fun pc => Nat.beq pc 14) 20 9 _ _ _ (And.intro ⟨h1, by show (ob (u1 σ.1 k _ k)).1 = 5; rw [u1_s]; rfl, _, rfl⟩ ?_)
  show G 14 [some (rfv k), some (.inr (some q))] [] (u1 (u1 σ.1 k (.inl (5, u1 (ck_dv 5) 1 (.inl (-1))))) k (.inl (5, u1 (ob (u1 σ.1 k (.inl (5, u1 (ck_dv 5) 1 (.inl (-1)))) k)).2 2 (.inl (-1)))), σ.2, 0, 0)
  rw [u1_s, u1_uu]
  refine hG (fun pc => Nat.beq pc 19) 20 14 _ _ _ (And.intro ⟨h1, by show (ob (u1 σ.1 k _ k)).1 = 5; rw [u1_s]; rfl, _, rfl⟩ ?_)
  show G 19 [some (rfv k), some (.inr (some q))] [] (u1 (u1 σ.1 k (.inl (5, u1 (u1 (ck_dv 5) 1 (.inl (-1))) 2 (.inl (-1))))) k (.inl (5, u1 (ob (u1 σ.1 k (.inl (5, u1 (u1 (ck_dv 5) 1 (.inl (-1))) 2 (.inl (-1)))) k)).2 0 (.inr (some q)))), σ.2, 0, 0)
  rw [u1_s, u1_uu]
  refine hG (fun _ => false) 20 19 _ _ _ ?_
  exact ⟨rfl, rfl, rfl, Nat.le_refl _, Nat.le_refl _, ck_nn⟩
set_option maxRecDepth 100000 in
theorem qX5_init {l : Launch} {b : Nat} {ca : Nat → ClassId} {D : va_G} : ck_met l b ca D yX5_init cX5_init 2 none { frames := 1, cells := 0, slots := 0, locals := 20 } 2 zX5_init := by
  refine ck_meth (by decide) (by first | exact Or.inl rfl | exact Or.inr rfl) (by decide) jkX5_init cnX5_in ?_ (fun avs σ G hlen hf hG => jX5_init avs σ G hf hG)
  intro p e s m args below meth c Qw S hname hT hnw
  refine List.forall_mem_cons.mpr ⟨ck_obj_ok S.1 S.2.1 S.2.2.1 S.2.2.2.2 S.2.2.2.1 (by decide +kernel) (by decide +kernel) (by decide +kernel) ⟨by decide, by decide⟩, ?_⟩
  refine List.forall_mem_cons.mpr ⟨ck_put_ok S.1 S.2.1 S.2.2.2.2 S.2.2.2.1 hT (by decide) (by decide) (by decide +kernel) hname rfl, ?_⟩
  refine List.forall_mem_cons.mpr ⟨ck_put_ok S.1 S.2.1 S.2.2.2.2 S.2.2.2.1 hT (by decide) (by decide) (by decide +kernel) hname rfl, ?_⟩
  refine List.forall_mem_cons.mpr ⟨ck_put_ok S.1 S.2.1 S.2.2.2.2 S.2.2.2.1 hT (by decide) (by decide) (by decide +kernel) hname rfl, ?_⟩
  exact fun q h => absurd h List.not_mem_nil
