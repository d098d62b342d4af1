/-! The pure part: updates, sums, chains, rows -/
def u2 {α : Type} (f : Nat → Nat → α) (j x : Nat) (v : α) : Nat → Nat → α := fun j' x' => if j' = j ∧ x' = x then v else f j' x'
def u1 {α : Type} (f : Nat → α) (x : Nat) (v : α) : Nat → α := fun x' => if x' = x then v else f x'
theorem u2_s {α : Type} (f : Nat → Nat → α) (j x : Nat) (v : α) : u2 f j x v j x = v := if_pos ⟨rfl, rfl⟩
theorem u2_n {α : Type} (f : Nat → Nat → α) {j x j' x' : Nat} (v : α) (h : ¬ (j' = j ∧ x' = x)) : u2 f j x v j' x' = f j' x' := if_neg h
theorem u1_s {α : Type} (f : Nat → α) (x : Nat) (v : α) : u1 f x v x = v := if_pos rfl
theorem u1_n {α : Type} (f : Nat → α) {x x' : Nat} (v : α) (h : ¬ x' = x) : u1 f x v x' = f x' := if_neg h
theorem u2_r {α : Type} (f : Nat → Nat → α) (j x : Nat) (v : α) : u2 f j x v j = u1 (f j) x v := by
  funext x'
  unfold u2 u1
  by_cases h : x' = x
  · rw [if_pos ⟨rfl, h⟩, if_pos h]
  · rw [if_neg (fun z => h z.2), if_neg h]
theorem u2_rn {α : Type} (f : Nat → Nat → α) {j x j' : Nat} (v : α) (h : ¬ j' = j) : u2 f j x v j' = f j' := by
  funext x'
  exact if_neg (fun z => h z.1)
theorem sw_ups (σ : sw_S) (c k j : Nat) (v : Int32) : sw_up σ c k j v c = u2 (σ c) k j v := by
  funext k' j'
  unfold sw_up u2
  by_cases h : k' = k ∧ j' = j
  · rw [if_pos ⟨rfl, h⟩, if_pos h]
  · rw [if_neg (fun z => h z.2), if_neg h]
theorem sw_upc (σ : sw_S) {c k j c' : Nat} {v : Int32} (h : ¬ c' = c) : sw_up σ c k j v c' = σ c' := by
  funext k' j'
  exact if_neg (fun z => h z.1)
/-- a sum -/
def su : Nat → (Nat → Nat) → Nat
  | 0, _ => 0
  | n + 1, f => su n f + f n
theorem su_congr {f g : Nat → Nat} : ∀ {n : Nat}, (∀ i, i < n → f i = g i) → su n f = su n g
  | 0, _ => rfl
  | n + 1, h => by
    show su n f + f n = su n g + g n
    rw [su_congr (fun i hi => h i (Nat.lt_succ_of_lt hi)), h n (Nat.lt_succ_self n)]
theorem su_le1 {f : Nat → Nat} : ∀ {n i : Nat}, i < n → f i ≤ su n f
  | n + 1, i, h => by
    show f i ≤ su n f + f n
    by_cases hi : i = n
    · subst hi; omega
    · have := su_le1 (f := f) (n := n) (i := i) (by omega)
      omega
theorem su_le2 {f : Nat → Nat} : ∀ {n i j : Nat}, i < n → j < n → ¬ i = j → f i + f j ≤ su n f
  | n + 1, i, j, hi, hj, hij => by
    show f i + f j ≤ su n f + f n
    by_cases h1 : i = n
    · have := su_le1 (f := f) (n := n) (i := j) (by omega)
      subst h1; omega
    · by_cases h2 : j = n
      · have := su_le1 (f := f) (n := n) (i := i) (by omega)
        subst h2; omega
      · have := su_le2 (f := f) (n := n) (i := i) (j := j) (by omega) (by omega) hij
        omega
theorem su_up {f g : Nat → Nat} : ∀ {n i : Nat}, i < n → (∀ j, j < n → ¬ j = i → g j = f j) → su n g + f i = su n f + g i
  | n + 1, i, hi, h => by
    show su n g + g n + f i = su n f + f n + g i
    by_cases h1 : i = n
    · subst h1
      rw [su_congr (f := g) (g := f) (fun j hj => h j (by omega) (by omega))]
      omega
    · have := su_up (f := f) (g := g) (n := n) (i := i) (by omega) (fun j hj hji => h j (by omega) hji)
      rw [h n (by omega) (fun z => h1 z.symm)]
      omega
theorem su_mono {f g : Nat → Nat} : ∀ {n : Nat}, (∀ i, i < n → f i ≤ g i) → su n f ≤ su n g
  | 0, _ => Nat.le_refl _
  | n + 1, h => by
    show su n f + f n ≤ su n g + g n
    have := su_mono (f := f) (g := g) (n := n) (fun i hi => h i (by omega))
    have := h n (by omega)
    omega
theorem su_const (c : Nat) : ∀ n : Nat, su n (fun _ => c) = n * c
  | 0 => (Nat.zero_mul c).symm
  | n + 1 => by
    show su n (fun _ => c) + c = (n + 1) * c
    rw [su_const c n, Nat.succ_mul]
theorem su_add (f g : Nat → Nat) : ∀ n : Nat, su n (fun i => f i + g i) = su n f + su n g
  | 0 => rfl
  | n + 1 => by
    show su n (fun i => f i + g i) + (f n + g n) = su n f + f n + (su n g + g n)
    rw [su_add f g n]
    omega
theorem su_even (f : Nat → Nat) : ∀ n : Nat, su (2 * n) f = su n (fun i => f (2 * i) + f (2 * i + 1))
  | 0 => rfl
  | n + 1 => by
    show su (2 * n) f + f (2 * n) + f (2 * n + 1) = su n (fun i => f (2 * i) + f (2 * i + 1)) + (f (2 * n) + f (2 * n + 1))
    rw [su_even f n]
    omega
theorem su_cut {f : Nat → Nat} {m : Nat} : ∀ {n : Nat}, m ≤ n → (∀ i, m ≤ i → i < n → f i = 0) → su n f = su m f
  | 0, h, _ => by
    have : m = 0 := by omega
    subst this; rfl
  | n + 1, h, h0 => by
    by_cases hm : m = n + 1
    · subst hm; rfl
    · show su n f + f n = su m f
      rw [su_cut (f := f) (m := m) (n := n) (by omega) (fun i a b => h0 i a (by omega)), h0 n (by omega) (by omega)]
      omega
/-- a chain of cells from h on -/
def ch (nx : Nat → Int32) : Int32 → List Nat → Prop
  | _, [] => True
  | h, a :: l => h = nI a ∧ ch nx (nx a) l
theorem ch_upd {nx : Nat → Int32} {c : Nat} {v : Int32} : ∀ {h : Int32} {l : List Nat}, c ∉ l → ch nx h l → ch (u1 nx c v) h l
  | _, [], _, _ => trivial
  | h, a :: l, hc, hh => by
    refine ⟨hh.1, ?_⟩
    rw [u1_n nx v (fun z => hc (by rw [z]; exact List.mem_cons_self))]
    exact ch_upd (fun z => hc (List.mem_cons_of_mem _ z)) hh.2
theorem ch_app {nx : Nat → Int32} {b c : Nat} : ∀ {h : Int32} {l : List Nat}, b ∉ l → ch nx h (l ++ [b]) → ch (u1 nx b (nI c)) h (l ++ [b] ++ [c])
  | h, [], _, hh => ⟨hh.1, by rw [u1_s]; exact ⟨rfl, trivial⟩⟩
  | h, a :: l, hb, hh => by
    refine ⟨hh.1, ?_⟩
    rw [u1_n nx _ (fun z => hb (by rw [z]; exact List.mem_cons_self))]
    exact ch_app (fun z => hb (List.mem_cons_of_mem _ z)) hh.2
/-- a row holds a list from B on -/
def ra (g : Nat → Int32) (B : Nat) (l : List Int32) : Prop := ∀ j, j < l.length → g (B + j) = l.getD j 0
theorem ra_nil (g : Nat → Int32) (B : Nat) : ra g B [] := fun j h => absurd h (Nat.not_lt_zero j)
theorem ra_out {g : Nat → Int32} {B : Nat} {l : List Int32} (h : ra g B l) {y : Nat} {v : Int32} (hy : y < B ∨ B + l.length ≤ y) : ra (u1 g y v) B l := fun j hj => by
  rw [u1_n g v (by omega)]
  exact h j hj
theorem ra_app {g : Nat → Int32} {B : Nat} {l : List Int32} (h : ra g B l) (v : Int32) : ra (u1 g (B + l.length) v) B (l ++ [v]) := fun j hj => by
  rw [List.length_append, List.length_singleton] at hj
  by_cases hl : j = l.length
  · subst hl
    rw [u1_s]
    simp
  · rw [u1_n g v (by omega), h j (by omega)]
    rw [List.getD_eq_getElem?_getD, List.getD_eq_getElem?_getD, List.getElem?_append_left (by omega)]
theorem ra_congr {g g' : Nat → Int32} {B : Nat} {l : List Int32} (h : ra g B l) (he : ∀ j, j < l.length → g' (B + j) = g (B + j)) : ra g' B l := fun j hj => (he j hj).trans (h j hj)
theorem ra_drop {g g' : Nat → Int32} {B n : Nat} {l : List Int32} (h : ra g B l) (he : ∀ j, j + n < l.length → g' (B + j) = g (B + (j + n))) : ra g' B (l.drop n) := fun j hj => by
  rw [List.length_drop] at hj
  rw [he j (by omega), h (j + n) (by omega), List.getD_eq_getElem?_getD, List.getD_eq_getElem?_getD, List.getElem?_drop, Nat.add_comm n j]
theorem ra_set {g : Nat → Int32} {B i : Nat} {l : List Int32} (h : ra g B l) (v : Int32) : ra (u1 g (B + i) v) B (l.set i v) := fun j hj => by
  rw [List.length_set] at hj
  by_cases hi : j = i
  · subst hi
    rw [u1_s, List.getD_eq_getElem?_getD, List.getElem?_set_self hj]
    rfl
  · rw [u1_n g v (by omega), h j hj, List.getD_eq_getElem?_getD, List.getD_eq_getElem?_getD, List.getElem?_set_ne (fun z => hi z.symm)]
