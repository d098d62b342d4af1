/-! The pure part: the class's frames and rings -/
/-- the word at i of a list of words -/
def la (l : List Int32) (i : Int32) : Int32 := if 0 ≤ i ∧ i < nI l.length then l.getD i.toNatClampNeg 0 else 0
theorem la_nI {l : List Int32} (hl : l.length < 2 ^ 31) {j : Nat} (hj : j < l.length) : la l (nI j) = l.getD j 0 := by
  unfold la
  rw [if_pos ⟨nI_pos' (by omega), nI_lt hj hl⟩, nI_clamp (by omega)]
theorem la_out {l : List Int32} (hl : l.length < 2 ^ 31) {j : Nat} (h31 : j < 2 ^ 31) (hj : l.length ≤ j) : la l (nI j) = 0 := by
  unfold la
  rw [if_neg (fun z => nI_nlt hj h31 z.2)]
/-- a frame of the class holds a list -/
def cFr (g v : Nat → Nat → Int32) (k : Nat) (l : List Int32) : Prop := g k 1 = nI l.length ∧ ra (v k) 0 l
theorem cFr_la {σ : sw_S} {k : Nat} {l : List Int32} (h : cFr (σ 2) (σ 12) k l) (hl : l.length < 2 ^ 31) : fr_at σ k = la l := by
  funext i
  unfold fr_at la
  rw [h.1]
  by_cases hi : 0 ≤ i ∧ i < nI l.length
  · rw [if_pos hi, if_pos hi]
    obtain ⟨j, hj, rfl⟩ := nI_of (Int32.not_lt.mpr hi.1)
    rw [nI_clamp hj]
    have := h.2 j ((nI_ltI hj hl).mp hi.2)
    rw [Nat.zero_add] at this
    exact this
  · rw [if_neg hi, if_neg hi]
/-- nothing but frame k has changed -/
def fx (k : Nat) (σ σ' : sw_S) : Prop := (∀ id, ¬ id = k → σ' 2 id = σ 2 id ∧ σ' 12 id = σ 12 id) ∧ ∀ c, ¬ c = 2 → ¬ c = 12 → σ' c = σ c
theorem fx.rf (k : Nat) (σ : sw_S) : fx k σ σ := ⟨fun _ _ => ⟨rfl, rfl⟩, fun _ _ _ => rfl⟩
theorem fx.tr {k : Nat} {a b c : sw_S} (h1 : fx k a b) (h2 : fx k b c) : fx k a c := ⟨fun id hi => ⟨(h2.1 id hi).1.trans (h1.1 id hi).1, (h2.1 id hi).2.trans (h1.1 id hi).2⟩, fun d h h' => (h2.2 d h h').trans (h1.2 d h h')⟩
theorem fx_2 (σ : sw_S) (k : Nat) (v : Int32) : fx k σ (sw_up σ 2 k 1 v) := ⟨fun id hi => ⟨by rw [sw_ups, u2_rn _ _ hi], by rw [sw_upc _ (by decide)]⟩, fun c h _ => sw_upc _ h⟩
theorem fx_12 (σ : sw_S) (k j : Nat) (v : Int32) : fx k σ (sw_up σ 12 k j v) := ⟨fun id hi => ⟨by rw [sw_upc _ (by decide)], by rw [sw_ups, u2_rn _ _ hi]⟩, fun c _ h => sw_upc _ h⟩
theorem cFr_fx {k id : Nat} {σ σ' : sw_S} (h : fx k σ σ') (hi : ¬ id = k) {l : List Int32} (hc : cFr (σ 2) (σ 12) id l) : cFr (σ' 2) (σ' 12) id l := by
  unfold cFr
  rw [(h.1 id hi).1, (h.1 id hi).2]
  exact hc
theorem cFr_put {P : az_P} (hP : az_ok P) {σ : sw_S} {k : Nat} {l : List Int32} (h : cFr (σ 2) (σ 12) k l) (hl : l.length < P 1 + 3) (x : Int32) : cFr ((gX2_put (lz P) k x σ).2.2 2) ((gX2_put (lz P) k x σ).2.2 12) k (l ++ [x]) ∧ fx k σ (gX2_put (lz P) k x σ).2.2 := by
  obtain ⟨-, ⟨a1, b1⟩, -⟩ := hP
  have e : (gX2_put (lz P) k x σ).2.2 = sw_up (sw_up σ 12 k l.length x) 2 k 1 (nI l.length + 1) := by
    show (if σ 2 k 1 < nI (P 1 + 3) then sw_up (sw_up σ 12 k (σ 2 k 1).toNatClampNeg x) 2 k 1 (σ 2 k 1 + 1) else σ) = _
    rw [h.1, if_pos (nI_lt hl (by omega)), nI_clamp (by omega)]
  rw [e]
  refine ⟨⟨?_, ?_⟩, (fx_12 σ k _ x).tr (fx_2 _ k _)⟩
  · rw [sw_ups, u2_s, List.length_append, List.length_singleton, nI_1]
  · rw [sw_upc _ (by decide), sw_ups, u2_r]
    have := ra_app h.2 x
    rw [Nat.zero_add] at this
    exact this
theorem cFr_begin {P : az_P} (hP : az_ok P) (σ : sw_S) (k : Nat) (x : Int32) : cFr ((gX2_begin (lz P) k x σ).2.2 2) ((gX2_begin (lz P) k x σ).2.2 12) k [x] ∧ fx k σ (gX2_begin (lz P) k x σ).2.2 := by
  have h0 : cFr (sw_up σ 2 k 1 0 2) (sw_up σ 2 k 1 0 12) k [] := ⟨by rw [sw_ups, u2_s]; rfl, ra_nil _ _⟩
  have h1 := cFr_put hP h0 (by show 0 < P 1 + 3; omega) x
  exact ⟨h1.1, (fx_2 σ k 0).tr h1.2⟩
theorem cFr_flip {P : az_P} {σ : sw_S} {k i : Nat} {l : List Int32} (h : cFr (σ 2) (σ 12) k l) (hl : l.length < 2 ^ 31) (hi : i < l.length) (x : Int32) : cFr ((gX2_flip (lz P) k (nI i) x σ).2.2 2) ((gX2_flip (lz P) k (nI i) x σ).2.2 12) k (l.set i (l.getD i 0 ^^^ x)) ∧ fx k σ (gX2_flip (lz P) k (nI i) x σ).2.2 := by
  have e : (gX2_flip (lz P) k (nI i) x σ).2.2 = sw_up σ 12 k i (l.getD i 0 ^^^ x) := by
    show (if 0 ≤ nI i ∧ nI i < σ 2 k 1 then sw_up σ 12 k (nI i).toNatClampNeg (σ 12 k (nI i).toNatClampNeg ^^^ x) else σ) = _
    have := h.2 i hi
    rw [Nat.zero_add] at this
    rw [h.1, if_pos ⟨nI_pos' (by omega), nI_lt hi hl⟩, nI_clamp (by omega), this]
  rw [e]
  refine ⟨⟨?_, ?_⟩, fx_12 σ k _ _⟩
  · rw [sw_upc _ (by decide), List.length_set]
    exact h.1
  · rw [sw_ups, u2_r]
    have := ra_set (i := i) h.2 (l.getD i 0 ^^^ x)
    rw [Nat.zero_add] at this
    exact this
def o_seal (l : List Int32) : List Int32 := l ++ [sm (la l) l.length]
theorem cFr_seal {P : az_P} (hP : az_ok P) {σ : sw_S} {k : Nat} {l : List Int32} (h : cFr (σ 2) (σ 12) k l) (hl : l.length < P 1 + 3) : cFr ((gX2_seal (lz P) k σ).2.2 2) ((gX2_seal (lz P) k σ).2.2 12) k (o_seal l) ∧ fx k σ (gX2_seal (lz P) k σ).2.2 := by
  have hp1 := hP.2.1.2
  have := cFr_put hP h hl (sm (fr_at σ k) (σ 2 k 1).toNatClampNeg)
  rw [cFr_la h (by omega), h.1, nI_clamp (by omega)] at this
  have e : (gX2_seal (lz P) k σ).2.2 = (gX2_put (lz P) k (sm (la l) l.length) σ).2.2 := by
    show (gX2_put (lz P) k (sm (fr_at σ k) (σ 2 k 1).toNatClampNeg) σ).2.2 = _
    rw [cFr_la h (by omega), h.1, nI_clamp (by omega)]
  rw [e]
  exact this
theorem fr_cp_12 (k o : Nat) (hko : ¬ o = k) (σ : sw_S) : ∀ n : Nat, n < 2 ^ 31 → ∀ j : Nat, fr_cp k o n σ 12 k j = (if j < n then σ 12 o j else σ 12 k j) ∧ ∀ id, ¬ id = k → fr_cp k o n σ 12 id = σ 12 id
  | 0, _, j => ⟨by rw [if_neg (Nat.not_lt_zero j)]; rfl, fun _ _ => rfl⟩
  | n + 1, hn, j => by
    have ih := fr_cp_12 k o hko σ n (by omega)
    have e : fr_cp k o (n + 1) σ 12 = u2 (fr_cp k o n σ 12) k n (σ 12 o n) := by
      show sw_up (fr_cp k o n σ) 12 k (nI n).toNatClampNeg (fr_cp k o n σ 12 o (nI n).toNatClampNeg) 12 = _
      rw [nI_clamp (by omega), sw_ups, (ih 0).2 o hko]
    rw [e]
    refine ⟨?_, fun id hi => by rw [u2_rn _ _ hi, (ih 0).2 id hi]⟩
    by_cases hj : j = n
    · subst hj
      rw [u2_s, if_pos (by omega)]
    · rw [u2_n _ _ (fun z => hj z.2), (ih j).1]
      by_cases h1 : j < n
      · rw [if_pos h1, if_pos (by omega)]
      · rw [if_neg h1, if_neg (by omega)]
theorem fr_cp_c (k o : Nat) {c : Nat} (hc : ¬ c = 12) (n : Nat) (σ : sw_S) : fr_cp k o n σ c = σ c := by
  funext k' j'
  exact fr_cp_k k o hc k' j' n σ
theorem cFr_copy {P : az_P} (hP : az_ok P) {σ : sw_S} {k o : Nat} {l : List Int32} (hko : ¬ o = k) (h : cFr (σ 2) (σ 12) o l) (hl : l.length ≤ P 1 + 3) : cFr ((gX2_copyFrom (lz P) k o σ).2.2 2) ((gX2_copyFrom (lz P) k o σ).2.2 12) k l ∧ fx k σ (gX2_copyFrom (lz P) k o σ).2.2 := by
  obtain ⟨-, ⟨a1, b1⟩, -⟩ := hP
  have ecl : fr_cl (lz P) k o σ = nI l.length := by
    show (if σ 2 o 1 < nI (P 1 + 3) then σ 2 o 1 else nI (P 1 + 3)) = _
    rw [h.1]
    by_cases hlt : l.length < P 1 + 3
    · rw [if_pos (nI_lt hlt (by omega))]
    · have : l.length = P 1 + 3 := by omega
      rw [this, if_neg (fun z => absurd z (Int32.not_lt.mpr (Int32.le_refl _)))]
  have e : (gX2_copyFrom (lz P) k o σ).2.2 = fr_cp k o l.length (sw_up σ 2 k 1 (nI l.length)) := by
    show fr_cp k o (fr_cl (lz P) k o σ).toNatClampNeg (sw_up σ 2 k 1 (fr_cl (lz P) k o σ)) = _
    rw [ecl, nI_clamp (by omega)]
  rw [e]
  have hc := fr_cp_12 k o hko (sw_up σ 2 k 1 (nI l.length)) l.length (by omega)
  refine ⟨⟨?_, fun j hj => ?_⟩, fun id hi => ⟨?_, ?_⟩, fun c h2 h12 => ?_⟩
  · rw [fr_cp_c k o (by decide), sw_ups, u2_s]
  · rw [Nat.zero_add, (hc j).1, if_pos hj, sw_upc _ (by decide)]
    have := h.2 j hj
    rw [Nat.zero_add] at this
    exact this
  · rw [fr_cp_c k o (by decide), sw_ups, u2_rn _ _ hi]
  · rw [(hc 0).2 id hi, sw_upc _ (by decide)]
  · rw [fr_cp_c k o h12, sw_upc _ h2]
/-- the slot that lies n behind the first -/
def rs (R a n : Nat) : Nat := if a + n < R then a + n else a + n - R
abbrev az_f : Type := Nat → List (List Int32)
def rl (P : az_P) (r : Nat) : Nat := if r % 2 = 0 then P 2 else P 4
theorem rl_lt {P : az_P} (hP : az_ok P) (r : Nat) : 1 ≤ rl P r ∧ rl P r ≤ 20 := by
  obtain ⟨-, -, ⟨a, b⟩, -, ⟨c, d⟩, -⟩ := hP
  unfold rl
  split <;> omega
def cRr (P : az_P) (g h v : Nat → Nat → Int32) (f : az_f) (r : Nat) : Prop := ∃ a : Nat, a < rl P r ∧ h r 1 = nI a ∧ h r 2 = nI (f r).length ∧ (f r).length ≤ rl P r ∧ ∀ n, n < (f r).length → cFr g v (32 * r + rs (rl P r) a n) ((f r).getD n [])
def cR (P : az_P) (g h v : Nat → Nat → Int32) (f : az_f) : Prop := ∀ r, cRr P g h v f r
abbrev cRσ (P : az_P) (σ : sw_S) (f : az_f) : Prop := cR P (σ 2) (σ 3) (σ 12) f
theorem rs_lt {R a n : Nat} (ha : a < R) (hn : n ≤ R) : rs R a n < R ∨ R = 0 := by
  unfold rs
  split <;> omega
/-- a draft's change leaves the rings (of junk rings nothing lies there) -/
theorem cR_fx {P : az_P} (hP : az_ok P) {k : Nat} {σ σ' : sw_S} {f : az_f} (h : fx k σ σ') (hk : 128 ≤ k) (hf : ∀ r, 4 ≤ r → f r = []) (hc : cRσ P σ f) : cRσ P σ' f := by
  intro r
  have hr := rl_lt hP r
  obtain ⟨a, h1, h2, h3, h4, h5⟩ := hc r
  refine ⟨a, h1, by rw [h.2 3 (by decide) (by decide)]; exact h2, by rw [h.2 3 (by decide) (by decide)]; exact h3, h4, fun n hn => ?_⟩
  by_cases h4r : 4 ≤ r
  · rw [hf r h4r] at hn
    exact absurd hn (Nat.not_lt_zero n)
  · have hs := rs_lt (n := n) h1 (by omega)
    exact cFr_fx h (by omega) (h5 n hn)
theorem rg_sl_go {P : az_P} (hP : az_ok P) {σ : sw_S} {r a n : Nat} (h1 : a < rl P r) (h2 : σ 3 r 1 = nI a) (hn : n ≤ rl P r) : rg_sl (lz P) r (nI n) σ = nI (rs (rl P r) a n) := by
  have hr := rl_lt hP r
  unfold rg_sl rs
  rw [h2, nI_add, show lz P 13 r = rl P r from rfl]
  by_cases h : a + n < rl P r
  · rw [if_neg (nI_ge h (by omega)), if_pos h]
  · rw [if_pos (nI_le (by omega) (by omega)), if_neg h]
    have e : a + n = a + n - rl P r + rl P r := by omega
    rw [e, ← nI_add, Nat.add_sub_cancel]
    exact Int32.add_sub_cancel _ _
theorem rg_at_go {P : az_P} (hP : az_ok P) {σ : sw_S} {r a n : Nat} (h1 : a < rl P r) (h2 : σ 3 r 1 = nI a) (hn : n < rl P r) : rg_at (lz P) r (nI n) σ = some (2, 32 * r + rs (rl P r) a n) := by
  have hr := rl_lt hP r
  have hs : rs (rl P r) a n < rl P r := by
    have := rs_lt (n := n) h1 (by omega)
    omega
  unfold rg_at
  rw [rg_sl_go hP h1 h2 (by omega), if_neg (nI_pos (by omega)), show lz P 13 r = rl P r from rfl, if_neg (nI_ge hs (by omega)), nI_clamp (by omega)]
theorem rg_fa_go {P : az_P} (hP : az_ok P) {σ : sw_S} {f : az_f} (h : cRσ P σ f) {r n : Nat} (hn : n < (f r).length) : ∃ k, rg_fa (lz P) r (nI n) σ = some (2, k) ∧ cFr (σ 2) (σ 12) k ((f r).getD n []) ∧ (r < 4 → k < 128) := by
  have hr := rl_lt hP r
  obtain ⟨a, h1, h2, h3, h4, h5⟩ := h r
  refine ⟨32 * r + rs (rl P r) a n, ?_, h5 n hn, fun hr4 => ?_⟩
  · unfold rg_fa
    rw [h3, if_neg (nI_pos (by omega)), if_neg (nI_ge hn (by omega))]
    exact rg_at_go hP h1 h2 (by omega)
  · have := rs_lt (n := n) h1 (by omega)
    omega
theorem rg_fa_no {P : az_P} (hP : az_ok P) {σ : sw_S} {f : az_f} (h : cRσ P σ f) {r : Nat} {x : Int32} (hx : x < 0 ∨ nI (f r).length ≤ x) : rg_fa (lz P) r x σ = none := by
  obtain ⟨a, h1, h2, h3, h4, h5⟩ := h r
  unfold rg_fa
  rw [h3]
  rcases hx with hx | hx
  · rw [if_pos hx]
  · by_cases h0 : x < 0
    · rw [if_pos h0]
    · rw [if_neg h0, if_pos hx]
theorem rg_ro_go {P : az_P} (hP : az_ok P) {σ : sw_S} {f : az_f} (h : cRσ P σ f) (r : Nat) : rg_ro (lz P) r σ = if (f r).length < rl P r then 1 else 0 := by
  have hr := rl_lt hP r
  obtain ⟨a, h1, h2, h3, h4, h5⟩ := h r
  unfold rg_ro
  rw [h3, show lz P 13 r = rl P r from rfl]
  by_cases hh : (f r).length < rl P r
  · rw [if_neg (nI_ge hh (by omega)), if_pos hh]
  · rw [if_pos (nI_le (by omega) (by omega)), if_neg hh]
/-- a draft goes to the end of a ring -/
theorem rg_add_go {P : az_P} (hP : az_ok P) {σ : sw_S} {f : az_f} (h : cRσ P σ f) {r k : Nat} {l : List Int32} (hr4 : r < 4) (hk : 128 ≤ k) (hl : cFr (σ 2) (σ 12) k l) (hll : l.length ≤ P 1 + 3) (hf : ∀ r, 4 ≤ r → f r = []) (hn : (f r).length < rl P r) :
    cRσ P (gX3_add (lz P) r k σ).2.2 (u1 f r (f r ++ [l])) ∧ cFr ((gX3_add (lz P) r k σ).2.2 2) ((gX3_add (lz P) r k σ).2.2 12) k l ∧ ∀ c, ¬ c = 2 → ¬ c = 12 → ¬ c = 3 → (gX3_add (lz P) r k σ).2.2 c = σ c := by
  have hr := rl_lt hP r
  obtain ⟨a, h1, h2, h3, h4, h5⟩ := h r
  obtain ⟨id, hid⟩ : ∃ id, id = 32 * r + rs (rl P r) a (f r).length := ⟨_, rfl⟩
  have hs : rs (rl P r) a (f r).length < rl P r := by
    have := rs_lt (n := (f r).length) h1 (by omega)
    omega
  have has : rg_as (lz P) r σ = some (2, id) := by
    unfold rg_as
    rw [rg_ro_go hP h r, if_pos hn, if_neg (by decide), h3, rg_at_go hP h1 h2 hn, hid]
  have e : (gX3_add (lz P) r k σ).2.2 = sw_up (gX2_copyFrom (lz P) id k σ).2.2 3 r 2 ((gX2_copyFrom (lz P) id k σ).2.2 3 r 2 + 1) := by
    show rg_ad (lz P) r k σ (rg_as (lz P) r σ) = _
    rw [has]
    rfl
  obtain ⟨c1, c2⟩ := cFr_copy hP (k := id) (o := k) (by omega) hl hll
  have e3 : (gX2_copyFrom (lz P) id k σ).2.2 3 = σ 3 := c2.2 3 (by decide) (by decide)
  rw [e]
  refine ⟨fun r' => ?_, ?_, fun c a1 a2 a3 => ?_⟩
  · rw [sw_upc _ (by decide), sw_ups, sw_upc _ (by decide), e3]
    by_cases hrr : r' = r
    · subst hrr
      refine ⟨a, h1, ?_, ?_, ?_, fun n hn' => ?_⟩
      · rw [u2_n _ _ (fun z => absurd z.2 (by decide))]
        exact h2
      · rw [u2_s, u1_s, h3, List.length_append, List.length_singleton, nI_1]
      · rw [u1_s, List.length_append, List.length_singleton]
        omega
      · rw [u1_s, List.length_append, List.length_singleton] at hn'
        rw [u1_s]
        by_cases hnl : n = (f r').length
        · subst hnl
          rw [← hid, show (f r' ++ [l]).getD (f r').length [] = l by simp]
          exact c1
        · have e5 : (f r' ++ [l]).getD n [] = (f r').getD n [] := by
            rw [List.getD_eq_getElem?_getD, List.getD_eq_getElem?_getD, List.getElem?_append_left (by omega)]
          rw [e5]
          refine cFr_fx c2 ?_ (h5 n (by omega))
          rw [hid]
          unfold rs
          split <;> split <;> omega
    · obtain ⟨b, g1, g2, g3, g4, g5⟩ := h r'
      refine ⟨b, g1, ?_, ?_, ?_, fun n hn' => ?_⟩
      · rw [u2_n _ _ (fun z => hrr z.1)]
        exact g2
      · rw [u2_n _ _ (fun z => hrr z.1), u1_n _ _ hrr]
        exact g3
      · rw [u1_n _ _ hrr]
        exact g4
      · rw [u1_n _ _ hrr] at hn' ⊢
        have hr' : r' < 4 := by
          by_cases h4' : r' < 4
          · exact h4'
          · rw [hf r' (by omega)] at hn'
            exact absurd hn' (Nat.not_lt_zero n)
        have hr2 := rl_lt hP r'
        have := rs_lt (n := n) g1 (by omega)
        exact cFr_fx c2 (by omega) (g5 n hn')
  · rw [sw_upc _ (by decide), sw_upc _ (by decide)]
    exact cFr_fx c2 (by omega) hl
  · rw [sw_upc _ a3]
    exact c2.2 c a1 a2
theorem rg_df_go {P : az_P} (hP : az_ok P) {σ : sw_S} {f : az_f} (h : cRσ P σ f) {r : Nat} {l : List Int32} {ls : List (List Int32)} (hl : f r = l :: ls) :
    ¬ σ 3 r 2 = 0 ∧ cRσ P (gX3_dropFirst (lz P) r σ).2.2 (u1 f r ls) ∧ ∀ c, ¬ c = 3 → (gX3_dropFirst (lz P) r σ).2.2 c = σ c := by
  have hr := rl_lt hP r
  obtain ⟨a, h1, h2, h3, h4, h5⟩ := h r
  rw [hl, List.length_cons] at h3 h4
  have hne : ¬ σ 3 r 2 = 0 := by rw [h3]; exact nI_ne0 (by omega) (by omega)
  have hnf : rg_nf (lz P) r σ = nI (rs (rl P r) a 1) := by
    unfold rg_nf rs
    rw [h2, nI_1, show lz P 13 r = rl P r from rfl]
    by_cases hh : a + 1 < rl P r
    · rw [if_neg (nI_ge hh (by omega)), if_pos hh]
    · rw [if_pos (nI_le (by omega) (by omega)), if_neg hh, show a + 1 - rl P r = 0 by omega, nI_0]
  have e : (gX3_dropFirst (lz P) r σ).2.2 = sw_up (sw_up σ 3 r 1 (nI (rs (rl P r) a 1))) 3 r 2 (σ 3 r 2 - 1) := by
    show (if σ 3 r 2 = 0 then σ else rg_df (lz P) r σ) = _
    rw [if_neg hne]
    unfold rg_df
    rw [hnf]
    congr 1
    rw [sw_ups, u2_n _ _ (fun z => absurd z.2 (by decide))]
  rw [e]
  refine ⟨hne, fun r' => ?_, fun c hc => by rw [sw_upc _ hc, sw_upc _ hc]⟩
  rw [sw_upc _ (by decide), sw_ups, sw_upc _ (by decide), sw_ups, sw_upc _ (by decide), sw_upc _ (by decide)]
  by_cases hrr : r' = r
  · subst hrr
    have hs : rs (rl P r') a 1 < rl P r' := by
      have := rs_lt (n := 1) h1 (by omega)
      omega
    refine ⟨rs (rl P r') a 1, hs, ?_, ?_, ?_, fun n hn => ?_⟩
    · rw [u2_n _ _ (fun z => absurd z.2 (by decide)), u2_s]
    · rw [u2_s, u1_s, h3, nI_pred]
    · rw [u1_s]; omega
    · rw [u1_s] at hn ⊢
      have := h5 (n + 1) (by rw [hl, List.length_cons]; omega)
      rw [hl, show (l :: ls).getD (n + 1) [] = ls.getD n [] from rfl] at this
      have e5 : rs (rl P r') (rs (rl P r') a 1) n = rs (rl P r') a (n + 1) := by
        unfold rs
        split <;> split <;> split <;> omega
      rw [e5]
      exact this
  · obtain ⟨b, g1, g2, g3, g4, g5⟩ := h r'
    refine ⟨b, g1, ?_, ?_, ?_, fun n hn => ?_⟩
    · rw [u2_n _ _ (fun z => hrr z.1), u2_n _ _ (fun z => hrr z.1)]
      exact g2
    · rw [u2_n _ _ (fun z => hrr z.1), u2_n _ _ (fun z => hrr z.1), u1_n _ _ hrr]
      exact g3
    · rw [u1_n _ _ hrr]
      exact g4
    · rw [u1_n _ _ hrr] at hn ⊢
      exact g5 n hn
theorem rg_df_nil {P : az_P} {σ : sw_S} {f : az_f} (h : cRσ P σ f) {r : Nat} (hl : f r = []) : σ 3 r 2 = 0 ∧ (gX3_dropFirst (lz P) r σ).2.2 = σ := by
  obtain ⟨a, h1, h2, h3, h4, h5⟩ := h r
  rw [hl] at h3
  have h3 : σ 3 r 2 = 0 := h3
  refine ⟨h3, ?_⟩
  show (if σ 3 r 2 = 0 then σ else rg_df (lz P) r σ) = σ
  rw [if_pos h3]
