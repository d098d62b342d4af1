/-! The numbering of the objects: which reference leads where; specs by their arguments -/
def sw_rf : sw_R := fun c k j => match c with
  | 0 => k
  | 1 => 2 * k + j
  | 2 => k
  | 3 => k
  | 5 => k / 16
  | 6 => (match j with
    | 0 => 0
    | 1 => k
    | 2 => 2 * k
    | 3 => 2 * k + 1
    | _ => 128 + k)
  | 7 => j
  | 8 => j
  | 13 => 32 * k + j
  | 14 => 8 * k + j
  | _ => 0
abbrev sw_X : Type := Prop × (Option sw_V × sw_S)
def sw_if (b : Bool) (x : sw_X) : sw_X := (bif b then x.1 else False, x.2)
def sw_fo (c : Nat) (g : Nat → sw_S → sw_X) : sw_F := fun avs σ => match avs with
  | [.inr (some q)] => sw_if (Nat.beq q.1 c) (g q.2 σ)
  | _ => (False, none, σ)
def sw_foi (c : Nat) (g : Nat → Int32 → sw_S → sw_X) : sw_F := fun avs σ => match avs with
  | [.inr (some q), .inl i] => sw_if (Nat.beq q.1 c) (g q.2 i σ)
  | _ => (False, none, σ)
def sw_foii (c : Nat) (g : Nat → Int32 → Int32 → sw_S → sw_X) : sw_F := fun avs σ => match avs with
  | [.inr (some q), .inl i, .inl j] => sw_if (Nat.beq q.1 c) (g q.2 i j σ)
  | _ => (False, none, σ)
def sw_foiii (c : Nat) (g : Nat → Int32 → Int32 → Int32 → sw_S → sw_X) : sw_F := fun avs σ => match avs with
  | [.inr (some q), .inl i, .inl j, .inl x] => sw_if (Nat.beq q.1 c) (g q.2 i j x σ)
  | _ => (False, none, σ)
def sw_foiiii (c : Nat) (g : Nat → Int32 → Int32 → Int32 → Int32 → sw_S → sw_X) : sw_F := fun avs σ => match avs with
  | [.inr (some q), .inl i, .inl j, .inl x, .inl y] => sw_if (Nat.beq q.1 c) (g q.2 i j x y σ)
  | _ => (False, none, σ)
def sw_foo (c d : Nat) (g : Nat → Nat → sw_S → sw_X) : sw_F := fun avs σ => match avs with
  | [.inr (some q), .inr (some p)] => sw_if (Nat.beq q.1 c && Nat.beq p.1 d) (g q.2 p.2 σ)
  | _ => (False, none, σ)
def sw_fooi (c d : Nat) (g : Nat → Nat → Int32 → sw_S → sw_X) : sw_F := fun avs σ => match avs with
  | [.inr (some q), .inr (some p), .inl i] => sw_if (Nat.beq q.1 c && Nat.beq p.1 d) (g q.2 p.2 i σ)
  | _ => (False, none, σ)
def sw_fooii (c d : Nat) (g : Nat → Nat → Int32 → Int32 → sw_S → sw_X) : sw_F := fun avs σ => match avs with
  | [.inr (some q), .inr (some p), .inl i, .inl j] => sw_if (Nat.beq q.1 c && Nat.beq p.1 d) (g q.2 p.2 i j σ)
  | _ => (False, none, σ)
def sw_fi (g : Int32 → sw_S → sw_X) : sw_F := fun avs σ => match avs with
  | [.inl i] => g i σ
  | _ => (False, none, σ)
def sw_fiii (g : Int32 → Int32 → Int32 → sw_S → sw_X) : sw_F := fun avs σ => match avs with
  | [.inl i, .inl j, .inl x] => g i j x σ
  | _ => (False, none, σ)
theorem sw_if_of {b : Bool} {x : sw_X} (h : (sw_if b x).1) : b = true ∧ x.1 := by
  cases b with
  | true => exact ⟨rfl, h⟩
  | false => exact False.elim h
/-- a run that ends in what a spec says -/
abbrev sw_end (x : sw_X) : Option sw_V → sw_S → Prop := fun r σ' => r = x.2.1 ∧ σ' = x.2.2
section swSpec
variable {W : (Option sw_V → sw_S → Prop) → sw_L → sw_S → Prop} {maxL n c d : Nat}
theorem sw_fo_h {g : Nat → sw_S → sw_X} (h : ∀ k σ, (g k σ).1 → W (sw_end (g k σ)) (sw_ent maxL [.inr (some (c, k))]) σ) : ∀ (avs : List sw_V) (σ : sw_S), avs.length = n → (sw_fo c g avs σ).1 → W (sw_end (sw_fo c g avs σ)) (sw_ent maxL avs) σ := by
  intro avs σ _ hf
  match avs, hf with
  | [.inr (some (q1, q2))], hf =>
    obtain ⟨hb, hf2⟩ := sw_if_of hf
    have hb : q1 = c := Nat.eq_of_beq_eq_true hb
    subst hb
    exact h q2 σ hf2
theorem sw_foi_h {g : Nat → Int32 → sw_S → sw_X} (h : ∀ k i σ, (g k i σ).1 → W (sw_end (g k i σ)) (sw_ent maxL [.inr (some (c, k)), .inl i]) σ) : ∀ (avs : List sw_V) (σ : sw_S), avs.length = n → (sw_foi c g avs σ).1 → W (sw_end (sw_foi c g avs σ)) (sw_ent maxL avs) σ := by
  intro avs σ _ hf
  match avs, hf with
  | [.inr (some (q1, q2)), .inl i], hf =>
    obtain ⟨hb, hf2⟩ := sw_if_of hf
    have hb : q1 = c := Nat.eq_of_beq_eq_true hb
    subst hb
    exact h q2 i σ hf2
theorem sw_foii_h {g : Nat → Int32 → Int32 → sw_S → sw_X} (h : ∀ k i j σ, (g k i j σ).1 → W (sw_end (g k i j σ)) (sw_ent maxL [.inr (some (c, k)), .inl i, .inl j]) σ) : ∀ (avs : List sw_V) (σ : sw_S), avs.length = n → (sw_foii c g avs σ).1 → W (sw_end (sw_foii c g avs σ)) (sw_ent maxL avs) σ := by
  intro avs σ _ hf
  match avs, hf with
  | [.inr (some (q1, q2)), .inl i, .inl j], hf =>
    obtain ⟨hb, hf2⟩ := sw_if_of hf
    have hb : q1 = c := Nat.eq_of_beq_eq_true hb
    subst hb
    exact h q2 i j σ hf2
theorem sw_foiii_h {g : Nat → Int32 → Int32 → Int32 → sw_S → sw_X} (h : ∀ k i j x σ, (g k i j x σ).1 → W (sw_end (g k i j x σ)) (sw_ent maxL [.inr (some (c, k)), .inl i, .inl j, .inl x]) σ) : ∀ (avs : List sw_V) (σ : sw_S), avs.length = n → (sw_foiii c g avs σ).1 → W (sw_end (sw_foiii c g avs σ)) (sw_ent maxL avs) σ := by
  intro avs σ _ hf
  match avs, hf with
  | [.inr (some (q1, q2)), .inl i, .inl j, .inl x], hf =>
    obtain ⟨hb, hf2⟩ := sw_if_of hf
    have hb : q1 = c := Nat.eq_of_beq_eq_true hb
    subst hb
    exact h q2 i j x σ hf2
theorem sw_foiiii_h {g : Nat → Int32 → Int32 → Int32 → Int32 → sw_S → sw_X} (h : ∀ k i j x y σ, (g k i j x y σ).1 → W (sw_end (g k i j x y σ)) (sw_ent maxL [.inr (some (c, k)), .inl i, .inl j, .inl x, .inl y]) σ) : ∀ (avs : List sw_V) (σ : sw_S), avs.length = n → (sw_foiiii c g avs σ).1 → W (sw_end (sw_foiiii c g avs σ)) (sw_ent maxL avs) σ := by
  intro avs σ _ hf
  match avs, hf with
  | [.inr (some (q1, q2)), .inl i, .inl j, .inl x, .inl y], hf =>
    obtain ⟨hb, hf2⟩ := sw_if_of hf
    have hb : q1 = c := Nat.eq_of_beq_eq_true hb
    subst hb
    exact h q2 i j x y σ hf2
theorem sw_foo_h {g : Nat → Nat → sw_S → sw_X} (h : ∀ k k2 σ, (g k k2 σ).1 → W (sw_end (g k k2 σ)) (sw_ent maxL [.inr (some (c, k)), .inr (some (d, k2))]) σ) : ∀ (avs : List sw_V) (σ : sw_S), avs.length = n → (sw_foo c d g avs σ).1 → W (sw_end (sw_foo c d g avs σ)) (sw_ent maxL avs) σ := by
  intro avs σ _ hf
  match avs, hf with
  | [.inr (some (q1, q2)), .inr (some (p1, p2))], hf =>
    obtain ⟨hb, hf2⟩ := sw_if_of hf
    rw [Bool.and_eq_true] at hb
    have hb1 : q1 = c := Nat.eq_of_beq_eq_true hb.1
    have hb2 : p1 = d := Nat.eq_of_beq_eq_true hb.2
    subst hb1
    subst hb2
    exact h q2 p2 σ hf2
theorem sw_fooi_h {g : Nat → Nat → Int32 → sw_S → sw_X} (h : ∀ k k2 i σ, (g k k2 i σ).1 → W (sw_end (g k k2 i σ)) (sw_ent maxL [.inr (some (c, k)), .inr (some (d, k2)), .inl i]) σ) : ∀ (avs : List sw_V) (σ : sw_S), avs.length = n → (sw_fooi c d g avs σ).1 → W (sw_end (sw_fooi c d g avs σ)) (sw_ent maxL avs) σ := by
  intro avs σ _ hf
  match avs, hf with
  | [.inr (some (q1, q2)), .inr (some (p1, p2)), .inl i], hf =>
    obtain ⟨hb, hf2⟩ := sw_if_of hf
    rw [Bool.and_eq_true] at hb
    have hb1 : q1 = c := Nat.eq_of_beq_eq_true hb.1
    have hb2 : p1 = d := Nat.eq_of_beq_eq_true hb.2
    subst hb1
    subst hb2
    exact h q2 p2 i σ hf2
theorem sw_fooii_h {g : Nat → Nat → Int32 → Int32 → sw_S → sw_X} (h : ∀ k k2 i j σ, (g k k2 i j σ).1 → W (sw_end (g k k2 i j σ)) (sw_ent maxL [.inr (some (c, k)), .inr (some (d, k2)), .inl i, .inl j]) σ) : ∀ (avs : List sw_V) (σ : sw_S), avs.length = n → (sw_fooii c d g avs σ).1 → W (sw_end (sw_fooii c d g avs σ)) (sw_ent maxL avs) σ := by
  intro avs σ _ hf
  match avs, hf with
  | [.inr (some (q1, q2)), .inr (some (p1, p2)), .inl i, .inl j], hf =>
    obtain ⟨hb, hf2⟩ := sw_if_of hf
    rw [Bool.and_eq_true] at hb
    have hb1 : q1 = c := Nat.eq_of_beq_eq_true hb.1
    have hb2 : p1 = d := Nat.eq_of_beq_eq_true hb.2
    subst hb1
    subst hb2
    exact h q2 p2 i j σ hf2
theorem sw_fi_h {g : Int32 → sw_S → sw_X} (h : ∀ i σ, (g i σ).1 → W (sw_end (g i σ)) (sw_ent maxL [.inl i]) σ) : ∀ (avs : List sw_V) (σ : sw_S), avs.length = n → (sw_fi g avs σ).1 → W (sw_end (sw_fi g avs σ)) (sw_ent maxL avs) σ := by
  intro avs σ _ hf
  match avs, hf with
  | [.inl i], hf => exact h i σ hf
theorem sw_fiii_h {g : Int32 → Int32 → Int32 → sw_S → sw_X} (h : ∀ i j x σ, (g i j x σ).1 → W (sw_end (g i j x σ)) (sw_ent maxL [.inl i, .inl j, .inl x]) σ) : ∀ (avs : List sw_V) (σ : sw_S), avs.length = n → (sw_fiii g avs σ).1 → W (sw_end (sw_fiii g avs σ)) (sw_ent maxL avs) σ := by
  intro avs σ _ hf
  match avs, hf with
  | [.inl i, .inl j, .inl x], hf => exact h i j x σ hf
end swSpec
