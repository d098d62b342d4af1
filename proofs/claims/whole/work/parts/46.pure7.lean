/-! The pure part: the wires' calls of the class; free cells, put, side -/
theorem getD_mem {l : List (List Int32)} {n : Nat} (h : n < l.length) : l.getD n [] ∈ l := by
  rw [List.getD_eq_getElem?_getD, List.getElem?_eq_getElem h]
  exact List.getElem_mem h
def O_lose (i : Int32) (A : az) : Int32 × az := match dS i with
  | none => (0, A)
  | some s => match A.2.2 (2 * s + 1) with
    | [] => (0, A)
    | _ :: ls => (1, af A (2 * s + 1) ls)
theorem K_lose {P : az_P} (hP : az_ok P) {σ : sw_S} {A : az} (h : crx P σ A) (i : Int32) : (gX7_lose (lz P) 0 i σ).1 ∧ (wi_lose (lz P) i σ).1 = (O_lose i A).1 ∧ crx P (wi_lose (lz P) i σ).2 (O_lose i A).2 := by
  obtain ⟨Q, SP, h⟩ := h
  refine ⟨trivial, ?_⟩
  rcases dS_of i with ⟨s, hs, he, h1, h2, h3⟩ | ⟨h1, h2, h3⟩
  · unfold O_lose wi_lose
    rw [h1, h2]
    show (if σ 3 (2 * s + 1) 2 = 0 then (0 : Int32) else 1) = _ ∧ crx P (gX3_dropFirst (lz P) (2 * s + 1) σ).2.2 _
    dsimp only
    match hf : A.2.2 (2 * s + 1) with
    | [] =>
      obtain ⟨a1, a2⟩ := rg_df_nil h.2.2.2.2.1 hf
      rw [if_pos a1, a2]
      exact ⟨rfl, Q, SP, h⟩
    | l :: ls =>
      obtain ⟨a1, a2, a3⟩ := rg_df_go hP h.2.2.2.2.1 hf
      rw [if_neg a1]
      refine ⟨rfl, Q, SP, cr_r h a2 (fg_eq h.2.2.2.2.2 (fun k => by rw [a3 2 (by decide)])) (fun c _ _ hc => a3 c hc)⟩
  · unfold O_lose wi_lose
    rw [h1, h2]
    exact ⟨rfl, Q, SP, h⟩
/-- frame n of side i's wire -/
theorem wi_fr_of {P : az_P} (hP : az_ok P) {σ : sw_S} {A : az} {Q SP : Nat → List Nat} (h : cr P σ A Q SP) (i j : Int32) : (∃ s n k, s < 2 ∧ i = nI s ∧ j = nI n ∧ dS i = some s ∧ n < (A.2.2 (2 * s + 1)).length ∧ wi_fr (lz P) i j σ = some (2, k) ∧ k < 128 ∧ cFr (σ 2) (σ 12) k ((A.2.2 (2 * s + 1)).getD n [])) ∨ (wi_fr (lz P) i j σ = none ∧ ∀ s, dS i = some s → j < 0 ∨ nI (A.2.2 (2 * s + 1)).length ≤ j) := by
  rcases dS_of i with ⟨s, hs, he, h1, h2, h3⟩ | ⟨h1, h2, h3⟩
  · have hlen : (A.2.2 (2 * s + 1)).length ≤ 20 := by
      obtain ⟨a, g1, g2, g3, g4, g5⟩ := h.2.2.2.2.1 (2 * s + 1)
      have := rl_lt hP (2 * s + 1)
      omega
    have ew : wi_fr (lz P) i j σ = rg_fa (lz P) (2 * s + 1) j σ := by
      unfold wi_fr
      rw [h2]
      rfl
    by_cases hj : j < 0 ∨ nI (A.2.2 (2 * s + 1)).length ≤ j
    · refine Or.inr ⟨by rw [ew]; exact rg_fa_no hP h.2.2.2.2.1 hj, fun s' hs' => ?_⟩
      rw [h1] at hs'
      injection hs' with hs'
      rw [← hs']
      exact hj
    · obtain ⟨n, hn, rfl⟩ := nI_of (fun z => hj (Or.inl z))
      have hnl : n < (A.2.2 (2 * s + 1)).length := by
        have : ¬ nI (A.2.2 (2 * s + 1)).length ≤ nI n := fun z => hj (Or.inr z)
        rw [nI_leI (by omega) hn] at this
        omega
      obtain ⟨k, k1, k2, k3⟩ := rg_fa_go hP h.2.2.2.2.1 hnl
      exact Or.inl ⟨s, n, k, hs, he, rfl, h1, hnl, by rw [ew]; exact k1, k3 (by omega), k2⟩
  · refine Or.inr ⟨?_, fun s' hs' => by rw [h1] at hs'; cases hs'⟩
    unfold wi_fr
    rw [h2]
    rfl
def o_wr (i : Int32) (l : List (List Int32)) (k : Int32) : Int32 := if i < 0 then 0 else if nI l.length ≤ i then 0 else la (l.getD i.toNatClampNeg []) k
def O_wire (i j k : Int32) (A : az) : Int32 := match dS i with
  | none => 0
  | some s => o_wr j (A.2.2 (2 * s + 1)) k
theorem K_wire {P : az_P} (hP : az_ok P) {σ : sw_S} {A : az} (hai : ai P A) (h : crx P σ A) (i j k : Int32) : (gX7_wire (lz P) 0 i j k σ).1 ∧ (wi_wire (lz P) i j k σ).1 = O_wire i j k A ∧ (wi_wire (lz P) i j k σ).2 = σ := by
  obtain ⟨Q, SP, h⟩ := h
  refine ⟨⟨lz_lo hP, h.2.2.2.2.2⟩, ?_⟩
  have hp1 := hP.2.1.2
  unfold wi_wire O_wire
  rcases wi_fr_of hP h i j with ⟨s, n, id, hs, he, hj, h1, hn, h2, -, h3⟩ | ⟨h2, h3⟩
  · rw [h1, h2]
    refine ⟨?_, rfl⟩
    have hlen := (hai.2.2.2.2 (2 * s + 1)).1
    have hr := rl_lt hP (2 * s + 1)
    have hm := ((hai.2.2.2.2 (2 * s + 1)).2 _ (getD_mem hn)).1
    show fr_at σ id k = o_wr j (A.2.2 (2 * s + 1)) k
    unfold o_wr
    rw [hj, if_neg (nI_pos (by omega)), if_neg (nI_ge hn (by omega)), nI_clamp (by omega), cFr_la h3 (by omega)]
  · rw [h2]
    refine ⟨?_, rfl⟩
    show (0 : Int32) = _
    rcases dS_of i with ⟨s, hs, he, h1, -, -⟩ | ⟨h1, -, -⟩
    · rw [h1]
      show 0 = o_wr j (A.2.2 (2 * s + 1)) k
      unfold o_wr
      rcases h3 s h1 with hj | hj
      · rw [if_pos hj]
      · by_cases hj0 : j < 0
        · rw [if_pos hj0]
        · rw [if_neg hj0, if_pos hj]
    · rw [h1]
def o_cp (r : Nat) (k m : Int32) (A : az) (l : List Int32) (ls : List (List Int32)) : Int32 × az := if m = 0 then (0, A) else if 0 ≤ k ∧ k < nI l.length then (1, af A r (l.set k.toNatClampNeg (l.getD k.toNatClampNeg 0 ^^^ m) :: ls)) else (0, A)
def o_cq (r : Nat) (k m : Int32) (A : az) : List (List Int32) → Int32 × az
  | [] => (0, A)
  | l :: ls => o_cp r k m A l ls
def O_corrupt (i k m : Int32) (A : az) : Int32 × az := match dS i with
  | none => (0, A)
  | some s => o_cq (2 * s + 1) k m A (A.2.2 (2 * s + 1))
theorem K_corrupt {P : az_P} (hP : az_ok P) {σ : sw_S} {A : az} (hai : ai P A) (h : crx P σ A) (i k m : Int32) : (gX7_corrupt (lz P) 0 i k m σ).1 ∧ (wi_corrupt (lz P) i k m σ).1 = (O_corrupt i k m A).1 ∧ crx P (wi_corrupt (lz P) i k m σ).2 (O_corrupt i k m A).2 := by
  obtain ⟨Q, SP, h⟩ := h
  refine ⟨⟨lz_lo hP, h.2.2.2.2.2⟩, ?_⟩
  have hp1 := hP.2.1.2
  unfold wi_corrupt O_corrupt
  rcases wi_fr_of hP h i 0 with ⟨s, n, id, hs, he, hj, h1, hn, h2, hid, h3⟩ | ⟨h2, h3⟩
  · rw [h1, h2]
    have hlen := (hai.2.2.2.2 (2 * s + 1)).1
    have hr := rl_lt hP (2 * s + 1)
    have hn0 : n = 0 := by
      rw [← nI_0] at hj
      exact ((nI_eq (by decide) (by omega)).mp hj).symm
    subst hn0
    have hm := ((hai.2.2.2.2 (2 * s + 1)).2 _ (getD_mem hn)).1
    match hf : A.2.2 (2 * s + 1) with
    | [] =>
      rw [hf] at hn
      exact absurd hn (Nat.not_lt_zero 0)
    | l :: ls =>
      rw [hf] at h3 hm
      have h3 : cFr (σ 2) (σ 12) id l := h3
      have hm : 2 ≤ l.length ∧ l.length ≤ P 1 + 3 := hm
      show (if m = 0 then ((0 : Int32), σ) else (if 0 ≤ k ∧ k < σ 2 id 1 then 1 else 0, (gX2_flip (lz P) id k m σ).2.2)).1 = (o_cq (2 * s + 1) k m A (A.2.2 (2 * s + 1))).1 ∧ crx P (if m = 0 then ((0 : Int32), σ) else (if 0 ≤ k ∧ k < σ 2 id 1 then 1 else 0, (gX2_flip (lz P) id k m σ).2.2)).2 (o_cq (2 * s + 1) k m A (A.2.2 (2 * s + 1))).2
      rw [hf]
      show _ = (o_cp (2 * s + 1) k m A l ls).1 ∧ crx P _ (o_cp (2 * s + 1) k m A l ls).2
      unfold o_cp
      by_cases hm0 : m = 0
      · rw [if_pos hm0, if_pos hm0]
        exact ⟨rfl, Q, SP, h⟩
      · rw [if_neg hm0, if_neg hm0]
        show (if 0 ≤ k ∧ k < σ 2 id 1 then (1 : Int32) else 0) = _ ∧ crx P (gX2_flip (lz P) id k m σ).2.2 _
        rw [h3.1]
        by_cases hk : 0 ≤ k ∧ k < nI l.length
        · rw [if_pos hk, if_pos hk]
          refine ⟨rfl, Q, SP, ?_⟩
          obtain ⟨j, hj2, rfl⟩ := nI_of (Int32.not_lt.mpr hk.1)
          have hjl : j < l.length := (nI_ltI hj2 (by omega)).mp hk.2
          obtain ⟨c1, c2⟩ := cFr_flip (P := P) h3 (by omega) hjl m
          rw [nI_clamp hj2]
          refine cr_r h (fun r' => ?_) (flip_go h.2.2.2.2.2 id (nI j) m) (fun c a1 a2 _ => c2.2 c a1 a2)
          obtain ⟨a, g1, g2, g3, g4, g5⟩ := h.2.2.2.2.1 r'
          rw [show (gX2_flip (lz P) id (nI j) m σ).2.2 3 = σ 3 from c2.2 3 (by decide) (by decide)]
          obtain ⟨ida, hida⟩ : ∃ ida, rg_fa (lz P) (2 * s + 1) 0 σ = some (2, ida) ∧ ida = id := by
            refine ⟨id, ?_, rfl⟩
            rcases dS_of i with ⟨s', hs', he', h1', h2', -⟩ | ⟨h1', -, -⟩
            · rw [h1] at h1'
              injection h1' with h1'
              subst h1'
              unfold wi_fr at h2
              rw [h2'] at h2
              exact h2
            · rw [h1] at h1'
              cases h1'
          by_cases hrr : r' = 2 * s + 1
          · subst hrr
            refine ⟨a, g1, g2, ?_, ?_, fun n hn' => ?_⟩
            · rw [g3, u1_s, hf]; rfl
            · rw [u1_s]; rw [hf] at g4; exact g4
            · have eid : id = 32 * (2 * s + 1) + rs (rl P (2 * s + 1)) a 0 := by
                have := hida.1
                unfold rg_fa at this
                rw [if_neg (by decide), g3, if_neg (by rw [hf, ← nI_0]; exact nI_ge (by rw [List.length_cons]; omega) (by rw [hf] at g4; omega))] at this
                have e2 := rg_at_go hP (n := 0) g1 g2 (by omega)
                rw [nI_0] at e2
                rw [e2] at this
                injection this with this
                injection this with _ this
                rw [← hida.2, ← this]
              rw [u1_s] at hn' ⊢
              rw [hf] at g5 g4
              by_cases hn0 : n = 0
              · subst hn0
                rw [← eid]
                exact c1
              · have : (l.set j (l.getD j 0 ^^^ m) :: ls).getD n [] = (l :: ls).getD n [] := by
                  match n, hn0 with
                  | n + 1, _ => rfl
                rw [this]
                refine cFr_fx c2 ?_ (g5 n hn')
                rw [eid]
                rw [List.length_cons] at hn' g4
                unfold rs
                split <;> split <;> omega
          · refine ⟨a, g1, g2, ?_, ?_, fun n hn' => ?_⟩
            · rw [u1_n _ _ hrr]; exact g3
            · rw [u1_n _ _ hrr]; exact g4
            · rw [u1_n _ _ hrr] at hn' ⊢
              have hr' : r' < 4 := by
                by_cases h4' : r' < 4
                · exact h4'
                · rw [hai.2.2.2.1 r' (by omega)] at hn'
                  exact absurd hn' (Nat.not_lt_zero n)
              have hr2 := rl_lt hP r'
              have hrs := rs_lt (n := n) g1 (by omega)
              refine cFr_fx c2 ?_ (g5 n hn')
              obtain ⟨a', g1', g2', g3', g4', -⟩ := h.2.2.2.2.1 (2 * s + 1)
              have := hida.1
              unfold rg_fa at this
              rw [if_neg (by decide), g3', if_neg (by rw [hf, ← nI_0]; exact nI_ge (by rw [List.length_cons]; omega) (by rw [hf] at g4'; omega))] at this
              have e2 := rg_at_go hP (n := 0) g1' g2' (by omega)
              rw [nI_0] at e2
              rw [e2] at this
              injection this with this
              injection this with _ this
              have hrs' := rs_lt (n := 0) g1' (by omega)
              have := hida.2
              omega
        · have e5 : (gX2_flip (lz P) id k m σ).2.2 = σ := by
            show (if 0 ≤ k ∧ k < σ 2 id 1 then _ else σ) = σ
            rw [h3.1, if_neg hk]
          rw [if_neg hk, if_neg hk, e5]
          exact ⟨rfl, Q, SP, h⟩
  · rw [h2]
    show (0 : Int32) = _ ∧ crx P σ _
    rcases dS_of i with ⟨s, hs, he, h1, -, -⟩ | ⟨h1, -, -⟩
    · rw [h1]
      show 0 = (o_cq (2 * s + 1) k m A (A.2.2 (2 * s + 1))).1 ∧ crx P σ (o_cq (2 * s + 1) k m A (A.2.2 (2 * s + 1))).2
      have : A.2.2 (2 * s + 1) = [] := by
        have hlen := (hai.2.2.2.2 (2 * s + 1)).1
        have hr := rl_lt hP (2 * s + 1)
        rcases h3 s h1 with hj | hj
        · exact absurd hj (by decide)
        · have := (nI_leI (b := 0) (by omega) (by decide)).mp hj
          exact List.length_eq_zero_iff.mp (by omega)
      rw [this]
      exact ⟨rfl, Q, SP, h⟩
    · rw [h1]
      exact ⟨rfl, Q, SP, h⟩
