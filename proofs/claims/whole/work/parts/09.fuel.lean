/-! More fuel does no harm; a run from a point, by any fuel -/
section swMono
variable {rf : sw_R} {ln : sw_A} {CT : sw_C} {rt N : Nat} {tree : Nat → sw_I} {Qr : Option sw_V → sw_S → Prop}
theorem sw_st_mono {TS : List (Int32 × Nat)} {K K' : Nat → sw_L → List sw_V → sw_S → Prop} (hK : ∀ pc L st σ, K pc L st σ → K' pc L st σ) (i : sw_I) (L : sw_L) (st : List sw_V) (σ : sw_S) (h : sw_st rf ln CT TS rt Qr K i L st σ) : sw_st rf ln CT TS rt Qr K' i L st σ := by
  obtain ⟨op, a, b, nx, v⟩ := i
  match op, h with
  | 0, h => exact hK _ _ _ _ h
  | 1, h =>
    replace h : (match sw_get L a with
      | some (.inl x) => K nx L (.inl x :: st) σ
      | _ => False) := h
    show (match sw_get L a with
      | some (.inl x) => K' nx L (.inl x :: st) σ
      | _ => False)
    cases hg : sw_get L a with
    | none => rw [hg] at h; exact h.elim
    | some w =>
      rw [hg] at h
      rcases w with x | r
      · first | exact hK _ _ _ _ h | exact False.elim h
      · first | exact hK _ _ _ _ h | exact False.elim h
  | 2, h =>
    replace h : (match sw_get L a with
      | some (.inr r) => K nx L (.inr r :: st) σ
      | _ => False) := h
    show (match sw_get L a with
      | some (.inr r) => K' nx L (.inr r :: st) σ
      | _ => False)
    cases hg : sw_get L a with
    | none => rw [hg] at h; exact h.elim
    | some w =>
      rw [hg] at h
      rcases w with x | r
      · first | exact hK _ _ _ _ h | exact False.elim h
      · first | exact hK _ _ _ _ h | exact False.elim h
  | 3, h =>
    rcases st with _ | ⟨x | r, st⟩
    · exact False.elim h
    · obtain ⟨h1, h⟩ := sw_bif h
      show bif Nat.blt a L.length then _ else False
      rw [h1]
      exact hK _ _ _ _ h
    · exact False.elim h
  | 4, h =>
    rcases st with _ | ⟨x | r, st⟩
    · exact False.elim h
    · exact False.elim h
    · obtain ⟨h1, h⟩ := sw_bif h
      show bif Nat.blt a L.length then _ else False
      rw [h1]
      exact hK _ _ _ _ h
  | 5, h =>
    replace h : (match sw_get L a with
      | some (.inl x) => K nx (sw_set L a (.inl (x + v))) st σ
      | _ => False) := h
    show (match sw_get L a with
      | some (.inl x) => K' nx (sw_set L a (.inl (x + v))) st σ
      | _ => False)
    cases hg : sw_get L a with
    | none => rw [hg] at h; exact h.elim
    | some w =>
      rw [hg] at h
      rcases w with x | r
      · first | exact hK _ _ _ _ h | exact False.elim h
      · first | exact hK _ _ _ _ h | exact False.elim h
  | 6, h =>
    rcases st with _ | ⟨y | r, _ | ⟨x | r', st⟩⟩
    · exact False.elim h
    · exact False.elim h
    · exact hK _ _ _ _ h
    all_goals exact False.elim h
  | 7, h =>
    rcases st with _ | ⟨x | _ | ⟨q1, k⟩, st⟩
    · exact False.elim h
    · exact False.elim h
    · exact False.elim h
    · replace h : (bif Nat.beq q1 a then (match sw_lay a with
      | .inl ds => match sw_nth ds b with
        | some d => K nx L ((bif Nat.blt d 3 then .inl (σ a k b) else .inr (some (d - 3, rf a k b))) :: st) σ
        | none => False
      | _ => False) else False) := h
      show (bif Nat.beq q1 a then (match sw_lay a with
      | .inl ds => match sw_nth ds b with
        | some d => K' nx L ((bif Nat.blt d 3 then .inl (σ a k b) else .inr (some (d - 3, rf a k b))) :: st) σ
        | none => False
      | _ => False) else False)
      obtain ⟨h1, h2⟩ := sw_bif h
      clear h
      rw [h1, cond_true]
      split at h2
      · split at h2
        · exact hK _ _ _ _ h2
        · exact False.elim h2
      · exact False.elim h2
  | 8, h =>
    rcases st with _ | ⟨x | r, _ | ⟨y | _ | ⟨q1, k⟩, st⟩⟩
    · exact False.elim h
    · exact False.elim h
    · exact False.elim h
    · exact False.elim h
    · replace h : (bif Nat.beq q1 a then (match sw_lay a with
      | .inl ds => match sw_nth ds b with
        | some 0 => K nx L st (sw_up σ a k b x)
        | some 1 => sw_bo x ∧ K nx L st (sw_up σ a k b x)
        | _ => False
      | _ => False) else False) := h
      show (bif Nat.beq q1 a then (match sw_lay a with
      | .inl ds => match sw_nth ds b with
        | some 0 => K' nx L st (sw_up σ a k b x)
        | some 1 => sw_bo x ∧ K' nx L st (sw_up σ a k b x)
        | _ => False
      | _ => False) else False)
      obtain ⟨h1, h2⟩ := sw_bif h
      clear h
      rw [h1, cond_true]
      split at h2
      · split at h2
        · exact hK _ _ _ _ h2
        · exact ⟨h2.1, hK _ _ _ _ h2.2⟩
        · exact False.elim h2
      · exact False.elim h2
    all_goals exact False.elim h
  | 9, h =>
    rcases st with _ | ⟨j | r, _ | ⟨y | _ | ⟨q1, k⟩, st⟩⟩
    · exact False.elim h
    · exact False.elim h
    · exact False.elim h
    · exact False.elim h
    · rcases a with _ | _ | _ | a
      · replace h : (match sw_lay q1 with
        | .inr t => vp_in j (ln q1 k) ∧ (bif Nat.beq t (0) then K nx L (.inl (σ q1 k j.toNatClampNeg) :: st) σ else False)
        | _ => False) := h
        show (match sw_lay q1 with
        | .inr t => vp_in j (ln q1 k) ∧ (bif Nat.beq t (0) then K' nx L (.inl (σ q1 k j.toNatClampNeg) :: st) σ else False)
        | _ => False)
        split at h
        · obtain ⟨h0, h2⟩ := h
          obtain ⟨h1, h3⟩ := sw_bif h2
          refine ⟨h0, ?_⟩
          rw [h1]
          exact hK _ _ _ _ h3
        · exact False.elim h
      · replace h : (match sw_lay q1 with
        | .inr t => vp_in j (ln q1 k) ∧ (bif Nat.beq t (1) then K nx L (.inl (σ q1 k j.toNatClampNeg) :: st) σ else False)
        | _ => False) := h
        show (match sw_lay q1 with
        | .inr t => vp_in j (ln q1 k) ∧ (bif Nat.beq t (1) then K' nx L (.inl (σ q1 k j.toNatClampNeg) :: st) σ else False)
        | _ => False)
        split at h
        · obtain ⟨h0, h2⟩ := h
          obtain ⟨h1, h3⟩ := sw_bif h2
          refine ⟨h0, ?_⟩
          rw [h1]
          exact hK _ _ _ _ h3
        · exact False.elim h
      · replace h : (match sw_lay q1 with
        | .inr t => vp_in j (ln q1 k) ∧ (bif Nat.ble 2 t then K nx L (.inr (some (t - 2, rf q1 k j.toNatClampNeg)) :: st) σ else False)
        | _ => False) := h
        show (match sw_lay q1 with
        | .inr t => vp_in j (ln q1 k) ∧ (bif Nat.ble 2 t then K' nx L (.inr (some (t - 2, rf q1 k j.toNatClampNeg)) :: st) σ else False)
        | _ => False)
        split at h
        · obtain ⟨h0, h2⟩ := h
          obtain ⟨h1, h3⟩ := sw_bif h2
          refine ⟨h0, ?_⟩
          rw [h1]
          exact hK _ _ _ _ h3
        · exact False.elim h
      · replace h : (match sw_lay q1 with
        | .inr t => vp_in j (ln q1 k) ∧ (bif Nat.beq t (a + 3) then K nx L (.inl (σ q1 k j.toNatClampNeg) :: st) σ else False)
        | _ => False) := h
        show (match sw_lay q1 with
        | .inr t => vp_in j (ln q1 k) ∧ (bif Nat.beq t (a + 3) then K' nx L (.inl (σ q1 k j.toNatClampNeg) :: st) σ else False)
        | _ => False)
        split at h
        · obtain ⟨h0, h2⟩ := h
          obtain ⟨h1, h3⟩ := sw_bif h2
          refine ⟨h0, ?_⟩
          rw [h1]
          exact hK _ _ _ _ h3
        · exact False.elim h
    all_goals exact False.elim h
  | 10, h =>
    rcases st with _ | ⟨x | r, _ | ⟨j | r, _ | ⟨y | _ | ⟨q1, k⟩, st⟩⟩⟩
    · exact False.elim h
    · exact False.elim h
    · exact False.elim h
    · exact False.elim h
    · exact False.elim h
    · rcases a with _ | a
      · replace h : (match sw_lay q1 with
        | .inr t => bif Nat.beq t (0) then (vp_in j (ln q1 k) ∧ K nx L st (sw_up σ q1 k j.toNatClampNeg x)) else False
        | _ => False) := h
        show (match sw_lay q1 with
        | .inr t => bif Nat.beq t (0) then (vp_in j (ln q1 k) ∧ K' nx L st (sw_up σ q1 k j.toNatClampNeg x)) else False
        | _ => False)
        split at h
        · obtain ⟨h1, h2⟩ := sw_bif h
          rw [h1, cond_true]
          exact ⟨h2.1, hK _ _ _ _ h2.2⟩
        · exact False.elim h
      · replace h : (match sw_lay q1 with
        | .inr t => bif Nat.beq t (a + 1) then (vp_in j (ln q1 k) ∧ (sw_bo x ∧ K nx L st (sw_up σ q1 k j.toNatClampNeg x))) else False
        | _ => False) := h
        show (match sw_lay q1 with
        | .inr t => bif Nat.beq t (a + 1) then (vp_in j (ln q1 k) ∧ (sw_bo x ∧ K' nx L st (sw_up σ q1 k j.toNatClampNeg x))) else False
        | _ => False)
        split at h
        · obtain ⟨h1, h2⟩ := sw_bif h
          rw [h1, cond_true]
          exact ⟨h2.1, h2.2.1, hK _ _ _ _ h2.2.2⟩
        · exact False.elim h
    all_goals exact False.elim h
  | 11, h =>
    rcases st with _ | ⟨y | _ | ⟨q1, k⟩, st⟩
    · exact False.elim h
    · exact False.elim h
    · exact False.elim h
    · replace h : (match sw_lay q1 with
      | .inr t => bif Nat.ble t 4 then K nx L (.inl (nI (ln q1 k)) :: st) σ else False
      | _ => False) := h
      show (match sw_lay q1 with
      | .inr t => bif Nat.ble t 4 then K' nx L (.inl (nI (ln q1 k)) :: st) σ else False
      | _ => False)
      split at h
      · obtain ⟨h1, h2⟩ := sw_bif h
        rw [h1]
        exact hK _ _ _ _ h2
      · exact False.elim h
  | 12, h =>
    rcases st with _ | ⟨x | r, st⟩
    · exact False.elim h
    · exact sw_br_mono (hK _ _ _ _) (hK _ _ _ _) h
    · exact False.elim h
  | 13, h =>
    rcases st with _ | ⟨y | r, _ | ⟨x | r', st⟩⟩
    · exact False.elim h
    · exact False.elim h
    · exact sw_br_mono (hK _ _ _ _) (hK _ _ _ _) h
    all_goals exact False.elim h
  | 14, h =>
    rcases st with _ | ⟨x | _ | q, st⟩
    · exact False.elim h
    · exact False.elim h
    · exact hK _ _ _ _ h
    · exact hK _ _ _ _ h
  | 15, h =>
    rcases st with _ | ⟨x | _ | q, st⟩
    · exact False.elim h
    · exact False.elim h
    · exact hK _ _ _ _ h
    · exact hK _ _ _ _ h
  | 16, h => exact hK _ _ _ _ h
  | 17, h =>
    rcases st with _ | ⟨x | r, st⟩
    · exact False.elim h
    · exact sw_sw_mono (fun t => hK _ _ _ _) _ h
    · exact False.elim h
  | 18, h =>
    replace h : (match sw_lk CT a with
    | some (n, md, f) => (match sw_tk n st [] with
      | some (avs, st') => bif sw_rc md b avs && Nat.ble st'.length 8 then ((f avs σ).1 ∧ K nx L ((f avs σ).2.1.toList ++ st') (f avs σ).2.2) else False
      | none => False)
    | none => False) := h
    show (match sw_lk CT a with
    | some (n, md, f) => (match sw_tk n st [] with
      | some (avs, st') => bif sw_rc md b avs && Nat.ble st'.length 8 then ((f avs σ).1 ∧ K' nx L ((f avs σ).2.1.toList ++ st') (f avs σ).2.2) else False
      | none => False)
    | none => False)
    split at h
    · split at h
      · obtain ⟨h1, h2⟩ := sw_bif h
        rw [h1, cond_true]
        exact ⟨h2.1, hK _ _ _ _ h2.2⟩
      · exact False.elim h
    · exact False.elim h
  | 19, h => exact h
  | 20, h => exact h
  | 21, h => exact h
  | 22, h =>
    rcases st with _ | ⟨x, st⟩
    · exact False.elim h
    · exact hK _ _ _ _ h
  | 23, h =>
    rcases st with _ | ⟨x, _ | ⟨y, st⟩⟩
    · exact False.elim h
    · exact False.elim h
    · exact hK _ _ _ _ h
  | 24, h =>
    rcases st with _ | ⟨x, st⟩
    · exact False.elim h
    · exact hK _ _ _ _ h
  | 25, h => exact hK _ _ _ _ h
  | 26, h =>
    rcases st with _ | ⟨y | r, _ | ⟨x | r', st⟩⟩
    · exact False.elim h
    · exact False.elim h
    · exact ⟨h.1, hK _ _ _ _ h.2⟩
    all_goals exact False.elim h
  | 27, h =>
    rcases st with _ | ⟨y | r, _ | ⟨x | r', st⟩⟩
    · exact False.elim h
    · exact False.elim h
    · exact ⟨h.1, hK _ _ _ _ h.2⟩
    all_goals exact False.elim h
  | n + 28, h => exact False.elim h
theorem sw_wp_succ {TS : sw_T} : ∀ (n pc : Nat) (L : sw_L) (st : List sw_V) (σ : sw_S), sw_wp rf ln CT TS rt N tree Qr n pc L st σ → sw_wp rf ln CT TS rt N tree Qr (n + 1) pc L st σ
  | 0, _, _, _, _, h => False.elim h
  | n + 1, pc, L, st, σ, h => sw_st_mono (fun pc L st σ => sw_wp_succ n pc L st σ) _ L st σ h
theorem sw_wp_mono {TS : sw_T} {n pc : Nat} {L : sw_L} {st : List sw_V} {σ : sw_S} (h : sw_wp rf ln CT TS rt N tree Qr n pc L st σ) (k : Nat) : sw_wp rf ln CT TS rt N tree Qr (n + k) pc L st σ := by
  induction k with
  | zero => exact h
  | succ k ih => exact sw_wp_succ _ _ _ _ _ ih
end swMono
/-! A run that stops at certain points, from which it is known to go on -/
def sw_isin : List Nat → Nat → Bool
  | [], _ => false
  | q :: l, i => bif Nat.beq q i then true else sw_isin l i
def sw_ws (rf : sw_R) (ln : sw_A) (CT : sw_C) (TS : sw_T) (rt N : Nat) (tree : Nat → sw_I) (Q : Option sw_V → sw_S → Prop) (stop : List Nat) (M : Nat) : Nat → Nat → sw_L → List sw_V → sw_S → Prop
  | 0, _, _, _, _ => False
  | n + 1, pc, ls, st, σ => sw_st rf ln CT (TS pc) rt Q (fun pc' ls' st' σ' => bif sw_isin stop pc' then sw_wp rf ln CT TS rt N tree Q M pc' ls' st' σ' else sw_ws rf ln CT TS rt N tree Q stop M n pc' ls' st' σ') (sw_tab N tree pc) ls st σ
theorem sw_ws_wp {rf : sw_R} {ln : sw_A} {CT : sw_C} {rt N : Nat} {tree : Nat → sw_I} {Q : Option sw_V → sw_S → Prop} {TS : sw_T} (stop : List Nat) (M : Nat) : ∀ (n pc : Nat) (L : sw_L) (st : List sw_V) (σ : sw_S), sw_ws rf ln CT TS rt N tree Q stop M n pc L st σ → sw_wp rf ln CT TS rt N tree Q (M + n) pc L st σ
  | 0, _, _, _, _, h => False.elim h
  | n + 1, pc, L, st, σ, h => sw_st_mono (fun pc' L' st' σ' h' => by
    cases hb : sw_isin stop pc' with
    | true =>
      rw [hb] at h'
      exact sw_wp_mono h' n
    | false =>
      rw [hb] at h'
      exact sw_ws_wp stop M n pc' L' st' σ' h') _ L st σ h
theorem sw_ex {P : Nat → Prop} {M n : Nat} (h : P (M + n)) : ∃ fuel, P fuel := ⟨_, h⟩
