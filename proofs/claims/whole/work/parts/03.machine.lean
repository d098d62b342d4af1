/-! The abstract machine of one method: values, stores, locals; the layout of the kinds; one step; many steps -/
abbrev sw_V : Type := Int32 ⊕ Option (Nat × Nat)
abbrev sw_S : Type := Nat → Nat → Nat → Int32
abbrev sw_L : Type := List (Option sw_V)
abbrev sw_I : Type := Nat × Nat × Nat × Nat × Int32
abbrev sw_F : Type := List sw_V → sw_S → Prop × (Option sw_V × sw_S)
abbrev sw_A : Type := Nat → Nat → Nat
abbrev sw_R : Type := Nat → Nat → Nat → Nat
abbrev sw_C : Type := List (Nat × Nat × Nat × sw_F)
abbrev sw_T : Type := Nat → List (Int32 × Nat)
def sw_up (σ : sw_S) (c k j : Nat) (v : Int32) : sw_S := fun c' k' j' => if c' = c ∧ k' = k ∧ j' = j then v else σ c' k' j'
def sw_get : sw_L → Nat → Option sw_V
  | [], _ => none
  | x :: _, 0 => x
  | _ :: l, n + 1 => sw_get l n
def sw_set : sw_L → Nat → sw_V → sw_L
  | [], _, _ => []
  | _ :: l, 0, v => some v :: l
  | x :: l, n + 1, v => x :: sw_set l n v
def sw_nth : List Nat → Nat → Option Nat
  | [], _ => none
  | x :: _, 0 => some x
  | _ :: l, n + 1 => sw_nth l n
def sw_tk : Nat → List sw_V → List sw_V → Option (List sw_V × List sw_V)
  | 0, st, acc => some (acc, st)
  | n + 1, v :: st, acc => sw_tk n st (v :: acc)
  | _ + 1, [], _ => none
def sw_lk : sw_C → Nat → Option (Nat × Nat × sw_F)
  | [], _ => none
  | q :: l, i => bif Nat.beq q.1 i then some q.2 else sw_lk l i
def sw_fl : List (Nat × Nat × Nat) → Nat → Option (Nat × Nat)
  | [], _ => none
  | q :: l, i => bif Nat.beq q.1 i then some q.2 else sw_fl l i
def sw_cn : List (Nat × Int32) → Nat → Option Int32
  | [], _ => none
  | q :: l, i => bif Nat.beq q.1 i then some q.2 else sw_cn l i
/-- a call's receiver: md 0 is static, md k + 1 wants an object of kind k -/
def sw_rc (md b : Nat) (avs : List sw_V) : Bool := match md with
  | 0 => Nat.beq b 1
  | c0 + 1 => Nat.beq b 0 && (match avs with
    | .inr (some q) :: _ => Nat.beq q.1 c0
    | _ => false)
def sw_bo (x : Int32) : Prop := x = 0 ∨ x = 1
def sw_ushr (x y : Int32) : Int32 := (x.toUInt32 >>> (y.toUInt32 &&& Int32.toUInt32 31)).toInt32
def sw_rem (x y : Int32) : Int32 := x - x / y * y
def sw_ar (a : Nat) (x y : Int32) : Int32 := match a with
  | 0 => x + y
  | 1 => x - y
  | 2 => x * y
  | 3 => x &&& y
  | 4 => x ||| y
  | 5 => x ^^^ y
  | 6 => x <<< (y &&& 31)
  | 7 => x >>> (y &&& 31)
  | _ => sw_ushr x y
def sw_br (a : Nat) (x y : Int32) (T F : Prop) : Prop := match a with
  | 0 => (x = y → T) ∧ (¬ x = y → F)
  | 1 => (¬ x = y → T) ∧ (x = y → F)
  | 2 => (x < y → T) ∧ (¬ x < y → F)
  | 3 => (y ≤ x → T) ∧ (¬ y ≤ x → F)
  | 4 => (y < x → T) ∧ (¬ y < x → F)
  | _ => (x ≤ y → T) ∧ (¬ x ≤ y → F)
def sw_sw (x : Int32) (d : Nat) (K : Nat → Prop) : List (Int32 × Nat) → Prop
  | [] => K d
  | q :: l => (x = q.1 → K q.2) ∧ (¬ x = q.1 → sw_sw x d K l)
def sw_lay (c : Nat) : List Nat ⊕ Nat := match c with
  | 0 => .inl [12, 13, 14, 0]
  | 1 => .inl [8, 8, 2, 0, 0, 0, 0, 1, 1, 1, 1, 0, 0]
  | 2 => .inl [15, 0]
  | 3 => .inl [16, 0, 0]
  | 4 => .inl [2, 2, 2, 2, 2, 2]
  | 5 => .inl [3, 0, 0, 0]
  | 6 => .inl [7, 17, 6, 6, 5, 0, 0, 0, 0, 1, 0, 0, 0, 0, 0]
  | 7 => .inl [9, 9]
  | 8 => .inl [2, 2, 2, 2, 2, 2, 18, 19, 18, 18, 18, 19, 19, 19, 18, 18, 18, 18, 19, 18, 18, 19, 18, 18, 18, 18, 18, 18, 18, 18, 18, 18, 19, 18, 18, 18, 18, 18, 18, 0]
  | 9 => .inr 0
  | 10 => .inr 1
  | 11 => .inr 0
  | 12 => .inr 0
  | 13 => .inr 4
  | 14 => .inr 3
  | 15 => .inr 0
  | 16 => .inr 1
  | _ => .inr 9999
/-- one instruction: (which, a, b, the next pc, a number) -/
def sw_st (rf : sw_R) (ln : sw_A) (CT : sw_C) (TS : List (Int32 × Nat)) (rt : Nat) (Q : Option sw_V → sw_S → Prop) (K : Nat → sw_L → List sw_V → sw_S → Prop) (i : sw_I) (ls : sw_L) (st : List sw_V) (σ : sw_S) : Prop :=
  match i with
  | (0, _, _, nx, v) => K nx ls (.inl v :: st) σ
  | (1, a, _, nx, _) => match sw_get ls a with
    | some (.inl x) => K nx ls (.inl x :: st) σ
    | _ => False
  | (2, a, _, nx, _) => match sw_get ls a with
    | some (.inr r) => K nx ls (.inr r :: st) σ
    | _ => False
  | (3, a, _, nx, _) => match st with
    | .inl x :: st' => bif Nat.blt a ls.length then K nx (sw_set ls a (.inl x)) st' σ else False
    | _ => False
  | (4, a, _, nx, _) => match st with
    | .inr r :: st' => bif Nat.blt a ls.length then K nx (sw_set ls a (.inr r)) st' σ else False
    | _ => False
  | (5, a, _, nx, v) => match sw_get ls a with
    | some (.inl x) => K nx (sw_set ls a (.inl (x + v))) st σ
    | _ => False
  | (6, a, _, nx, _) => match st with
    | .inl y :: .inl x :: st' => K nx ls (.inl (sw_ar a x y) :: st') σ
    | _ => False
  | (7, a, b, nx, _) => match st with
    | .inr (some q) :: st' => bif Nat.beq q.1 a then (match sw_lay a with
      | .inl ds => match sw_nth ds b with
        | some d => K nx ls ((bif Nat.blt d 3 then .inl (σ a q.2 b) else .inr (some (d - 3, rf a q.2 b))) :: st') σ
        | none => False
      | _ => False) else False
    | _ => False
  | (8, a, b, nx, _) => match st with
    | .inl x :: .inr (some q) :: st' => bif Nat.beq q.1 a then (match sw_lay a with
      | .inl ds => match sw_nth ds b with
        | some 0 => K nx ls st' (sw_up σ a q.2 b x)
        | some 1 => sw_bo x ∧ K nx ls st' (sw_up σ a q.2 b x)
        | _ => False
      | _ => False) else False
    | _ => False
  | (9, a, _, nx, _) => match st with
    | .inl j :: .inr (some q) :: st' => (match sw_lay q.1 with
      | .inr t => vp_in j (ln q.1 q.2) ∧ (match a with
        | 2 => (bif Nat.ble 2 t then K nx ls (.inr (some (t - 2, rf q.1 q.2 j.toNatClampNeg)) :: st') σ else False)
        | _ => (bif Nat.beq t a then K nx ls (.inl (σ q.1 q.2 j.toNatClampNeg) :: st') σ else False))
      | _ => False)
    | _ => False
  | (10, a, _, nx, _) => match st with
    | .inl x :: .inl j :: .inr (some q) :: st' => (match sw_lay q.1 with
      | .inr t => bif Nat.beq t a then (vp_in j (ln q.1 q.2) ∧ (match a with
        | 0 => K nx ls st' (sw_up σ q.1 q.2 j.toNatClampNeg x)
        | _ => sw_bo x ∧ K nx ls st' (sw_up σ q.1 q.2 j.toNatClampNeg x))) else False
      | _ => False)
    | _ => False
  | (11, _, _, nx, _) => match st with
    | .inr (some q) :: st' => (match sw_lay q.1 with
      | .inr t => bif Nat.ble t 4 then K nx ls (.inl (nI (ln q.1 q.2)) :: st') σ else False
      | _ => False)
    | _ => False
  | (12, a, b, nx, _) => match st with
    | .inl x :: st' => sw_br a x 0 (K b ls st' σ) (K nx ls st' σ)
    | _ => False
  | (13, a, b, nx, _) => match st with
    | .inl y :: .inl x :: st' => sw_br a x y (K b ls st' σ) (K nx ls st' σ)
    | _ => False
  | (14, _, b, nx, _) => match st with
    | .inr none :: st' => K b ls st' σ
    | .inr (some _) :: st' => K nx ls st' σ
    | _ => False
  | (15, _, b, nx, _) => match st with
    | .inr none :: st' => K nx ls st' σ
    | .inr (some _) :: st' => K b ls st' σ
    | _ => False
  | (16, _, b, _, _) => K b ls st σ
  | (17, a, _, _, _) => match st with
    | .inl x :: st' => sw_sw x a (fun t => K t ls st' σ) TS
    | _ => False
  | (18, a, b, nx, _) => match sw_lk CT a with
    | some (n, md, f) => (match sw_tk n st [] with
      | some (avs, st') => bif sw_rc md b avs && Nat.ble st'.length 8 then ((f avs σ).1 ∧ K nx ls ((f avs σ).2.1.toList ++ st') (f avs σ).2.2) else False
      | none => False)
    | none => False
  | (19, _, _, _, _) => match st with
    | [.inl x] => (match rt with
      | 1 => Q (some (.inl x)) σ
      | 2 => sw_bo x ∧ Q (some (.inl x)) σ
      | _ => False)
    | _ => False
  | (20, _, _, _, _) => match st with
    | [.inr r] => (match rt with
      | 3 => Q (some (.inr r)) σ
      | _ => False)
    | _ => False
  | (21, _, _, _, _) => match st with
    | [] => (match rt with
      | 0 => Q none σ
      | _ => False)
    | _ => False
  | (22, _, _, nx, _) => match st with
    | x :: st' => K nx ls (x :: x :: st') σ
    | _ => False
  | (23, _, _, nx, _) => match st with
    | x :: y :: st' => K nx ls (x :: y :: x :: y :: st') σ
    | _ => False
  | (24, _, _, nx, _) => match st with
    | _ :: st' => K nx ls st' σ
    | _ => False
  | (25, _, _, nx, _) => K nx ls (.inr none :: st) σ
  | (26, _, _, nx, _) => match st with
    | .inl y :: .inl x :: st' => ¬ y = 0 ∧ K nx ls (.inl (x / y) :: st') σ
    | _ => False
  | (27, _, _, nx, _) => match st with
    | .inl y :: .inl x :: st' => ¬ y = 0 ∧ K nx ls (.inl (sw_rem x y) :: st') σ
    | _ => False
  | _ => False
/-- the code of a method: a table up to a last pc -/
def sw_tab (N : Nat) (tree : Nat → sw_I) (pc : Nat) : sw_I := bif Nat.ble pc N then tree pc else (99, 0, 0, 0, 0)
def sw_wp (rf : sw_R) (ln : sw_A) (CT : sw_C) (TS : sw_T) (rt N : Nat) (tree : Nat → sw_I) (Q : Option sw_V → sw_S → Prop) : Nat → Nat → sw_L → List sw_V → sw_S → Prop
  | 0, _, _, _, _ => False
  | n + 1, pc, ls, st, σ => sw_st rf ln CT (TS pc) rt Q (sw_wp rf ln CT TS rt N tree Q n) (sw_tab N tree pc) ls st σ
theorem sw_br_mono {a : Nat} {x y : Int32} {T F T' F' : Prop} (hT : T → T') (hF : F → F') (h : sw_br a x y T F) : sw_br a x y T' F' := by
  unfold sw_br at h ⊢
  split at h <;> exact ⟨fun z => by first | exact hT (h.1 z), fun z => by first | exact hF (h.2 z)⟩
theorem sw_sw_mono {x : Int32} {d : Nat} {K K' : Nat → Prop} (hK : ∀ t, K t → K' t) : ∀ l : List (Int32 × Nat), sw_sw x d K l → sw_sw x d K' l
  | [], h => hK _ h
  | q :: l, h => ⟨fun z => hK _ (h.1 z), fun z => sw_sw_mono hK l (h.2 z)⟩
