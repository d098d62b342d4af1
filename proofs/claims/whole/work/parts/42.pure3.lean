/-! The pure part: put and drop of the class's queues over the store -/
abbrev cQσ (P : az_P) (σ : sw_S) (q : az_q) (Q SP : Nat → List Nat) : Prop := cQ P (σ 0) (σ 5) (σ 9) (σ 10) (σ 11) q Q SP
theorem u2_self {α : Type} (f : Nat → Nat → α) (j x : Nat) : u2 f j x (f j x) = f := by
  funext j' x'
  unfold u2
  split
  · rename_i h
    rw [h.1, h.2]
  · rfl
theorem qu_pc_5 (q : Nat) (c : Int32) (σ : sw_S) : qu_pc q c σ 5 = u2 (u2 (σ 5) q 2 c) q 3 (σ 5 q 3 + 1) := by
  unfold qu_pc
  rw [sw_ups, sw_ups, u2_n (σ 5) c (fun z => absurd z.2 (by decide))]
theorem qu_pc_k (q : Nat) (c : Int32) (σ : sw_S) {c' : Nat} (h : ¬ c' = 5) : qu_pc q c σ c' = σ c' := by
  unfold qu_pc
  rw [sw_upc _ h, sw_upc _ h]
theorem ce_fi_0 (k : Nat) (c w b : Int32) (σ : sw_S) : ce_fi k c w b σ 0 = u2 (σ 0) k 3 (σ 11 k c.toNatClampNeg) := by
  unfold ce_fi
  rw [sw_upc _ (by decide), sw_upc _ (by decide), sw_upc _ (by decide), sw_ups]
theorem ce_fi_9 (k : Nat) (c w b : Int32) (σ : sw_S) : ce_fi k c w b σ 9 = u2 (σ 9) k c.toNatClampNeg w := by
  unfold ce_fi
  rw [sw_upc _ (by decide), sw_upc _ (by decide), sw_ups, sw_upc _ (by decide)]
theorem ce_fi_10 (k : Nat) (c w b : Int32) (σ : sw_S) : ce_fi k c w b σ 10 = u2 (σ 10) k c.toNatClampNeg b := by
  unfold ce_fi
  rw [sw_upc _ (by decide), sw_ups, sw_upc _ (by decide), sw_upc _ (by decide)]
theorem ce_fi_11 (k : Nat) (c w b : Int32) (σ : sw_S) : ce_fi k c w b σ 11 = u2 (σ 11) k c.toNatClampNeg (-1) := by
  unfold ce_fi
  rw [sw_ups, sw_upc _ (by decide), sw_upc _ (by decide), sw_upc _ (by decide)]
theorem ce_fi_k (k : Nat) (c w b : Int32) (σ : sw_S) {c' : Nat} (h : ¬ c' = 0 ∧ ¬ c' = 9 ∧ ¬ c' = 10 ∧ ¬ c' = 11) : ce_fi k c w b σ c' = σ c' := by
  unfold ce_fi
  rw [sw_upc _ h.2.2.2, sw_upc _ h.2.2.1, sw_upc _ h.2.1, sw_upc _ h.1]
theorem nI_ne1 {n : Nat} (h : n < 2 ^ 31) : ¬ nI n = -1 := by
  intro z
  exact nI_pos h (by rw [z]; decide)
/-- a kind that queues and cells don't use -/
abbrev noQ (c : Nat) : Prop := ¬ c = 0 ∧ ¬ c = 5 ∧ ¬ c = 9 ∧ ¬ c = 10 ∧ ¬ c = 11
theorem qu_pu_go {P : az_P} (hP : az_ok P) {σ : sw_S} {q : az_q} {Q SP : Nat → List Nat} (h : cQσ P σ q Q SP) {i s c : Nat} {l : List Nat} (hi : i / 16 = s) (hc : SP s = c :: l) (w b : Int32) :
    cQσ P (qu_pu (lz P) i w b σ) (u2 q (i % 2) (i / 2) (q (i % 2) (i / 2) ++ [(w, b)])) (u1 Q i (Q i ++ [c])) (u1 SP s l) ∧ ∀ c', noQ c' → qu_pu (lz P) i w b σ c' = σ c' := by
  have hr := az_rm_lt hP
  obtain ⟨hclt, -, -⟩ := cQs_sp (h.2 s) (show c ∈ SP s by rw [hc]; exact List.mem_cons_self)
  have h03 : σ 0 s 3 = nI c := by
    have := (h.2 s).1
    rw [hc] at this
    exact this.1
  have hho := lz_ho hP (s := s) hclt
  have hcl : (nI c).toNatClampNeg = c := nI_clamp (by omega)
  have hfc : ce_fc (lz P) (i / 16) σ = nI c := by
    unfold ce_fc
    rw [hi, h03, if_neg hho]
  have hfill : (gX0_fill (lz P) (i / 16) w b σ).2.2 = ce_fi s (nI c) w b σ := by
    show (if ce_ho (lz P) (i / 16) (σ 0 (i / 16) 3) = 0 then σ else ce_fi (i / 16) (σ 0 (i / 16) 3) w b σ) = _
    rw [hi, h03, if_neg hho]
  have hpu : qu_pu (lz P) i w b σ = qu_pc i (nI c) (qu_pb (lz P) i (nI c) (ce_fi s (nI c) w b σ)) := by
    unfold qu_pu
    rw [hfc, if_neg (nI_ne1 (by omega)), hfill]
  have h5 : ce_fi s (nI c) w b σ 5 = σ 5 := ce_fi_k s (nI c) w b σ (by decide)
  obtain ⟨q1, q2, q3, q4⟩ := h.1 i
  have hlen : (Q i).length ≤ 2000 := by
    have := (h.2 s).2.2
    have l1 := su_le1 (f := fun j => (Q (16 * s + j)).length) (n := 16) (i := i % 16) (by omega)
    simp only [show 16 * s + i % 16 = i by omega] at l1
    omega
  rw [hpu]
  by_cases hne : Q i = []
  · have hpb : qu_pb (lz P) i (nI c) (ce_fi s (nI c) w b σ) = sw_up (ce_fi s (nI c) w b σ) 5 i 1 (nI c) := by
      unfold qu_pb
      rw [if_pos (by rw [h5, q1, hne]; rfl)]
    rw [hpb]
    refine ⟨?_, fun c' hc' => ?_⟩
    · have := cQ_put h hi hc w b (nI c) (u2 (σ 11) s c (-1)) (u2 (u2 (u2 (σ 5) i 1 (nI c)) i 2 (nI c)) i 3 (σ 5 i 3 + 1)) (by rw [if_pos hne]) (by rw [if_pos hne]) rfl hr.2
      unfold cQσ
      rw [qu_pc_5, qu_pc_k _ _ _ (by decide), qu_pc_k _ _ _ (by decide), qu_pc_k _ _ _ (by decide), qu_pc_k _ _ _ (by decide), sw_ups, sw_upc _ (by decide), sw_upc _ (by decide), sw_upc _ (by decide), sw_upc _ (by decide), h5, ce_fi_0, ce_fi_9, ce_fi_10, ce_fi_11, hcl, u2_n (σ 5) (nI c) (fun z => absurd z.2 (by decide))]
      exact this
    · rw [qu_pc_k _ _ _ hc'.2.1, sw_upc _ hc'.2.1, ce_fi_k _ _ _ _ _ ⟨hc'.1, hc'.2.2.1, hc'.2.2.2.1, hc'.2.2.2.2⟩]
  · obtain ⟨l0, b0, he⟩ : ∃ l0 b0, Q i = l0 ++ [b0] := ⟨_, _, (List.dropLast_concat_getLast hne).symm⟩
    have h2 := q3 _ _ he
    obtain ⟨b1, -, -, -⟩ := cQs_lt (h.2 s) hi (show b0 ∈ Q i by rw [he]; exact List.mem_append_right _ List.mem_cons_self)
    have hsz : ¬ ce_fi s (nI c) w b σ 5 i 3 = 0 := by
      rw [h5, q1]
      refine nI_ne0 ?_ (by omega)
      rw [he, List.length_append, List.length_singleton]
      omega
    have hpb : qu_pb (lz P) i (nI c) (ce_fi s (nI c) w b σ) = sw_up (ce_fi s (nI c) w b σ) 11 s (σ 5 i 2).toNatClampNeg (nI c) := by
      unfold qu_pb
      rw [if_neg hsz]
      show (if ce_ho (lz P) (i / 16) (ce_fi s (nI c) w b σ 5 i 2) = 0 then ce_fi s (nI c) w b σ else sw_up (ce_fi s (nI c) w b σ) 11 (i / 16) (ce_fi s (nI c) w b σ 5 i 2).toNatClampNeg (nI c)) = _
      rw [h5, h2, hi, if_neg (lz_ho hP b1)]
    rw [hpb]
    refine ⟨?_, fun c' hc' => ?_⟩
    · have := cQ_put h hi hc w b (σ 5 i 1) (u2 (u2 (σ 11) s c (-1)) s (σ 5 i 2).toNatClampNeg (nI c)) (u2 (u2 (u2 (σ 5) i 1 (σ 5 i 1)) i 2 (nI c)) i 3 (σ 5 i 3 + 1)) (by rw [if_neg hne]) (by rw [if_neg hne]) rfl hr.2
      rw [u2_self] at this
      unfold cQσ
      rw [qu_pc_5, qu_pc_k _ _ _ (by decide), qu_pc_k _ _ _ (by decide), qu_pc_k _ _ _ (by decide), qu_pc_k _ _ _ (by decide), sw_ups, sw_upc _ (by decide), sw_upc _ (by decide), sw_upc _ (by decide), sw_upc _ (by decide), h5, ce_fi_0, ce_fi_9, ce_fi_10, ce_fi_11, hcl]
      exact this
    · rw [qu_pc_k _ _ _ hc'.2.1, sw_upc _ hc'.2.2.2.2, ce_fi_k _ _ _ _ _ ⟨hc'.1, hc'.2.2.1, hc'.2.2.2.1, hc'.2.2.2.2⟩]
/-- what the oldest is -/
theorem cQ_hd {P : az_P} (hP : az_ok P) {σ : sw_S} {q : az_q} {Q SP : Nat → List Nat} (h : cQσ P σ q Q SP) {i : Nat} {p : Int32 × Int32} {r : List (Int32 × Int32)} (hq : q (i % 2) (i / 2) = p :: r) :
    ∃ c l, Q i = c :: l ∧ c < az_rm P ∧ σ 5 i 1 = nI c ∧ σ 9 (i / 16) c = p.1 ∧ σ 10 (i / 16) c = p.2 ∧ ¬ σ 5 i 3 ≤ 0 ∧ ¬ σ 5 i 3 = 0 := by
  obtain ⟨q1, q2, q3, q4⟩ := h.1 i
  rw [hq] at q4
  have hr := az_rm_lt hP
  have hlen : (Q i).length ≤ 2000 := by
    have := (h.2 (i / 16)).2.2
    have l1 := su_le1 (f := fun j => (Q (16 * (i / 16) + j)).length) (n := 16) (i := i % 16) (by omega)
    simp only [show 16 * (i / 16) + i % 16 = i by omega] at l1
    omega
  match hQ : Q i with
  | [] =>
    rw [hQ] at q4
    cases q4
  | c :: l =>
    rw [hQ] at q4 q2 q1 hlen
    rw [List.map_cons] at q4
    injection q4 with q5 q6
    obtain ⟨b1, -, -, -⟩ := cQs_lt (h.2 (i / 16)) rfl (show c ∈ Q i by rw [hQ]; exact List.mem_cons_self)
    refine ⟨c, l, rfl, b1, q2.1, by rw [← q5], by rw [← q5], ?_, ?_⟩
    · rw [q1]; exact nI_nle (by rw [List.length_cons]; omega) (by omega)
    · rw [q1]; exact nI_ne0 (by rw [List.length_cons]; omega) (by omega)
theorem cQ_len {P : az_P} (hP : az_ok P) {σ : sw_S} {q : az_q} {Q SP : Nat → List Nat} (h : cQσ P σ q Q SP) (i : Nat) : σ 5 i 3 = nI (q (i % 2) (i / 2)).length ∧ (q (i % 2) (i / 2)).length ≤ 2000 ∧ (Q i).length = (q (i % 2) (i / 2)).length := by
  obtain ⟨q1, q2, q3, q4⟩ := h.1 i
  have hr := az_rm_lt hP
  have hlen : (Q i).length ≤ 2000 := by
    have := (h.2 (i / 16)).2.2
    have l1 := su_le1 (f := fun j => (Q (16 * (i / 16) + j)).length) (n := 16) (i := i % 16) (by omega)
    simp only [show 16 * (i / 16) + i % 16 = i by omega] at l1
    omega
  have e : (Q i).length = (q (i % 2) (i / 2)).length := by rw [← q4, List.length_map]
  rw [q1, e]
  exact ⟨rfl, by omega, rfl⟩
theorem qu_om_go {P : az_P} (hP : az_ok P) {σ : sw_S} {q : az_q} {Q SP : Nat → List Nat} (h : cQσ P σ q Q SP) {i : Nat} {p : Int32 × Int32} {r : List (Int32 × Int32)} (hq : q (i % 2) (i / 2) = p :: r) : qu_om (lz P) i σ = (if p.2 = 0 then 0 else 1) ∧ qu_ow (lz P) i σ = p.1 := by
  obtain ⟨c, l, -, h1, h2, h3, h4, h5, -⟩ := cQ_hd hP h hq
  have hr := az_rm_lt hP
  have hcl : (nI c).toNatClampNeg = c := nI_clamp (by omega)
  unfold qu_om qu_ow ce_mk ce_wo
  rw [if_neg h5, if_neg h5, h2, if_neg (lz_ho hP h1), if_neg (lz_ho hP h1), hcl, h3, h4]
  refine ⟨?_, rfl⟩
  by_cases hp : p.2 = 0
  · rw [if_pos hp, if_pos rfl]
  · rw [if_neg hp, if_neg (by decide)]
theorem qu_om_nil {P : az_P} (hP : az_ok P) {σ : sw_S} {q : az_q} {Q SP : Nat → List Nat} (h : cQσ P σ q Q SP) {i : Nat} (hq : q (i % 2) (i / 2) = []) : σ 5 i 3 = 0 := by
  rw [(cQ_len hP h i).1, hq]
  rfl
theorem qu_do_ab {P : az_P} (hP : az_ok P) {σ : sw_S} {q : az_q} {Q SP : Nat → List Nat} (h : cQσ P σ q Q SP) {i : Nat} {p : Int32 × Int32} {r : List (Int32 × Int32)} (hq : q (i % 2) (i / 2) = p :: r) :
    (∃ Q' SP', cQσ P (qu_do (lz P) i σ) (u2 q (i % 2) (i / 2) r) Q' SP') ∧ ∀ c', noQ c' → qu_do (lz P) i σ c' = σ c' := by
  obtain ⟨c, l, hQ, h1, h2, h3, h4, h5, -⟩ := cQ_hd hP h hq
  have hr := az_rm_lt hP
  have hcl : (nI c).toNatClampNeg = c := nI_clamp (by omega)
  have hg : (gX0_giveBack (lz P) (i / 16) (σ 5 i 1) σ).2.2 = sw_up (sw_up σ 11 (i / 16) c (σ 0 (i / 16) 3)) 0 (i / 16) 3 (nI c) := by
    show (if ce_ho (lz P) (i / 16) (σ 5 i 1) = 0 then σ else sw_up (sw_up σ 11 (i / 16) (σ 5 i 1).toNatClampNeg (σ 0 (i / 16) 3)) 0 (i / 16) 3 (σ 5 i 1)) = _
    rw [h2, if_neg (lz_ho hP h1), hcl]
  have hda : qu_da (lz P) i σ = sw_up (sw_up (sw_up σ 11 (i / 16) c (σ 0 (i / 16) 3)) 0 (i / 16) 3 (nI c)) 5 i 1 (σ 11 (i / 16) c) := by
    unfold qu_da
    rw [hg, h2, if_neg (lz_ho hP h1), hcl]
  have hdo : qu_do (lz P) i σ = sw_up (sw_up (sw_up (sw_up σ 11 (i / 16) c (σ 0 (i / 16) 3)) 0 (i / 16) 3 (nI c)) 5 i 1 (σ 11 (i / 16) c)) 5 i 3 (σ 5 i 3 - 1) := by
    unfold qu_do
    rw [if_neg h5, hda]
    congr 1
    rw [sw_ups, u2_n _ _ (fun z => absurd z.2 (by decide)), sw_upc _ (by decide), sw_upc _ (by decide)]
  rw [hdo]
  refine ⟨⟨u1 Q i l, u1 SP (i / 16) (c :: SP (i / 16)), ?_⟩, fun c' hc' => by rw [sw_upc _ hc'.2.1, sw_upc _ hc'.2.1, sw_upc _ hc'.1, sw_upc _ hc'.2.2.2.2]⟩
  have := cQ_drop h (i := i) rfl hQ (u2 (u2 (σ 5) i 1 (σ 11 (i / 16) c)) i 3 (σ 5 i 3 - 1)) rfl
  rw [hq, List.tail_cons] at this
  unfold cQσ
  rw [sw_upc _ (by decide), sw_upc _ (by decide), sw_ups, sw_upc _ (by decide), sw_ups, sw_ups, sw_upc _ (by decide), sw_upc _ (by decide), sw_upc _ (by decide), sw_upc _ (by decide), sw_upc _ (by decide), sw_upc _ (by decide), sw_upc _ (by decide), sw_upc _ (by decide), sw_upc _ (by decide), sw_upc _ (by decide), sw_upc _ (by decide), sw_upc _ (by decide), sw_upc _ (by decide), sw_ups]
  exact this
