/-! The pure part: the limits, the cells and queues of the class -/
abbrev az_P : Type := Nat → Nat
/-- 0 streams, 1 most, 2 window, 3 cells, 4 wire, 5 kept -/
def az_ok (P : az_P) : Prop := (1 ≤ P 0 ∧ P 0 ≤ 8) ∧ (1 ≤ P 1 ∧ P 1 ≤ 16) ∧ (1 ≤ P 2 ∧ P 2 ≤ 15) ∧ (4 ≤ P 3 ∧ P 3 ≤ 400) ∧ (1 ≤ P 4 ∧ P 4 ≤ 20) ∧ (1 ≤ P 5 ∧ P 5 ≤ 200)
def az_rm (P : az_P) : Nat := P 3 + P 0 * P 5
theorem az_rm_lt {P : az_P} (h : az_ok P) : 1 ≤ az_rm P ∧ az_rm P ≤ 2000 := by
  obtain ⟨⟨a, b⟩, -, -, ⟨c, d⟩, -, ⟨e, f⟩⟩ := h
  unfold az_rm
  have h1 : P 0 * P 5 ≤ 8 * 200 := Nat.mul_le_mul b f
  omega
def lz (P : az_P) : sw_A := fun c k => match c with
  | 9 => az_rm P
  | 10 => az_rm P
  | 11 => az_rm P
  | 12 => P 1 + 3
  | 13 => if k % 2 = 0 then P 2 else P 4
  | 14 => P 0
  | 15 => ml k
  | 16 => mz k
  | _ => 0
theorem lz_mo (P : az_P) : mo (lz P) := ⟨fun _ => rfl, fun _ => rfl⟩
theorem ml_lt (k : Nat) : ml k < 2 ^ 31 := by
  unfold ml
  split <;> decide
theorem mz_lt (k : Nat) : mz k < 2 ^ 31 := by
  unfold mz
  split <;> decide
theorem lz_lo {P : az_P} (h : az_ok P) : lo (lz P) := by
  have hr := az_rm_lt h
  obtain ⟨⟨a, b⟩, ⟨a1, b1⟩, ⟨a2, b2⟩, ⟨c, d⟩, ⟨a3, b3⟩, ⟨e, f⟩⟩ := h
  refine ⟨fun c k => ?_, fun k => ⟨rfl, rfl⟩⟩
  unfold lz
  split
  · omega
  · omega
  · omega
  · omega
  · split <;> omega
  · omega
  · exact ml_lt k
  · exact mz_lt k
  · decide
abbrev az_q : Type := Nat → Nat → List (Int32 × Int32)
/-- cells and queues: e spares, z queues, wd mk nx the cells; Q the cells of each queue, SP the spare ones -/
def cQi (z wd mk nx : Nat → Nat → Int32) (q : az_q) (Q : Nat → List Nat) (i : Nat) : Prop :=
  z i 3 = nI (Q i).length ∧ ch (nx (i / 16)) (z i 1) (Q i) ∧ (∀ l c, Q i = l ++ [c] → z i 2 = nI c) ∧ (Q i).map (fun c => (wd (i / 16) c, mk (i / 16) c)) = q (i % 2) (i / 2)
def cQs (P : az_P) (e nx : Nat → Nat → Int32) (Q SP : Nat → List Nat) (s : Nat) : Prop :=
  ch (nx s) (e s 3) (SP s) ∧ (∀ c, su 16 (fun i => (Q (16 * s + i)).count c) + (SP s).count c = if c < az_rm P then 1 else 0) ∧ su 16 (fun i => (Q (16 * s + i)).length) + (SP s).length = az_rm P
def cQ (P : az_P) (e z wd mk nx : Nat → Nat → Int32) (q : az_q) (Q SP : Nat → List Nat) : Prop := (∀ i, cQi z wd mk nx q Q i) ∧ ∀ s, cQs P e nx Q SP s
theorem cQs_lt {P : az_P} {e nx : Nat → Nat → Int32} {Q SP : Nat → List Nat} {s : Nat} (h : cQs P e nx Q SP s) {c i : Nat} (hi : i / 16 = s) (hc : c ∈ Q i) : c < az_rm P ∧ (Q i).count c = 1 ∧ c ∉ SP s ∧ ∀ j, j / 16 = s → ¬ j = i → c ∉ Q j := by
  have h0 := h.2.1 c
  have hp : 0 < (Q i).count c := List.count_pos_iff.mpr hc
  have e1 : 16 * s + i % 16 = i := by omega
  have l1 := su_le1 (f := fun i => (Q (16 * s + i)).count c) (n := 16) (i := i % 16) (by omega)
  simp only [e1] at l1
  have hlt : c < az_rm P := by
    by_cases hlt : c < az_rm P
    · exact hlt
    · rw [if_neg hlt] at h0
      omega
  rw [if_pos hlt] at h0
  refine ⟨hlt, by omega, fun z => ?_, fun j hj hji z => ?_⟩
  · have := List.count_pos_iff.mpr z
    omega
  · have e2 : 16 * s + j % 16 = j := by omega
    have l2 := su_le2 (f := fun i => (Q (16 * s + i)).count c) (n := 16) (i := i % 16) (j := j % 16) (by omega) (by omega) (by omega)
    simp only [e1, e2] at l2
    have := List.count_pos_iff.mpr z
    omega
theorem cQs_sp {P : az_P} {e nx : Nat → Nat → Int32} {Q SP : Nat → List Nat} {s : Nat} (h : cQs P e nx Q SP s) {c : Nat} (hc : c ∈ SP s) : c < az_rm P ∧ (SP s).count c = 1 ∧ ∀ j, j / 16 = s → c ∉ Q j := by
  have h0 := h.2.1 c
  have hp : 0 < (SP s).count c := List.count_pos_iff.mpr hc
  have hlt : c < az_rm P := by
    by_cases hlt : c < az_rm P
    · exact hlt
    · rw [if_neg hlt] at h0
      omega
  rw [if_pos hlt] at h0
  refine ⟨hlt, by omega, fun j hj z => ?_⟩
  have e2 : 16 * s + j % 16 = j := by omega
  have l1 := su_le1 (f := fun i => (Q (16 * s + i)).count c) (n := 16) (i := j % 16) (by omega)
  simp only [e2] at l1
  have := List.count_pos_iff.mpr z
  omega
theorem lz_ho {P : az_P} (hP : az_ok P) {c s : Nat} (hc : c < az_rm P) : ¬ ce_ho (lz P) s (nI c) = 0 := by
  have hr := az_rm_lt hP
  unfold ce_ho
  rw [if_neg (nI_pos (by omega)), show lz P 11 s = az_rm P from rfl, if_neg (show ¬ nI (az_rm P) ≤ nI c from nI_ge (by omega) (by omega))]
  decide
/-- the cells' side of a put: queue i takes the first spare cell c -/
theorem cQ_put {P : az_P} {e z wd mk nx : Nat → Nat → Int32} {q : az_q} {Q SP : Nat → List Nat} (h : cQ P e z wd mk nx q Q SP) {i s c : Nat} {l : List Nat} (hi : i / 16 = s) (hc : SP s = c :: l) (w b o : Int32) (nx' z' : Nat → Nat → Int32)
    (hn : nx' = (if Q i = [] then u2 nx s c (-1) else u2 (u2 nx s c (-1)) s (z i 2).toNatClampNeg (nI c)))
    (ho : o = if Q i = [] then nI c else z i 1) (hz : z' = u2 (u2 (u2 z i 1 o) i 2 (nI c)) i 3 (z i 3 + 1)) (hr : az_rm P ≤ 2000) :
    cQ P (u2 e s 3 (nx s c)) z' (u2 wd s c w) (u2 mk s c b) nx' (u2 q (i % 2) (i / 2) (q (i % 2) (i / 2) ++ [(w, b)])) (u1 Q i (Q i ++ [c])) (u1 SP s l) := by
  obtain ⟨hq, hs⟩ := h
  have hcs : c ∈ SP s := by rw [hc]; exact List.mem_cons_self
  obtain ⟨hclt, hc1, hcn⟩ := cQs_sp (hs s) hcs
  have hcl : c ∉ l := by
    intro z
    rw [hc, List.count_cons_self] at hc1
    have := List.count_pos_iff.mpr z
    omega
  -- the last cell of queue i
  have hlast : ¬ Q i = [] → ∃ l0 b0, Q i = l0 ++ [b0] ∧ z i 2 = nI b0 ∧ b0 < az_rm P ∧ b0 ∉ l0 ∧ b0 ∉ SP s ∧ (∀ j, j / 16 = s → ¬ j = i → b0 ∉ Q j) ∧ (z i 2).toNatClampNeg = b0 := by
    intro hne
    obtain ⟨l0, b0, he⟩ : ∃ l0 b0, Q i = l0 ++ [b0] := ⟨_, _, (List.dropLast_concat_getLast hne).symm⟩
    have hm : b0 ∈ Q i := by rw [he]; exact List.mem_append_right _ List.mem_cons_self
    obtain ⟨a1, a2, a3, a4⟩ := cQs_lt (hs s) hi hm
    have h2 := (hq i).2.2.1 _ _ he
    refine ⟨l0, b0, he, h2, a1, fun z => ?_, a3, a4, by rw [h2]; exact nI_clamp (by omega)⟩
    rw [he, List.count_append, List.count_singleton_self] at a2
    have := List.count_pos_iff.mpr z
    omega
  -- chains of lists that hold neither
  have hkeep : ∀ (s2 : Nat) (h0 : Int32) (L : List Nat), ch (nx s2) h0 L → (s2 = s → c ∉ L) → (s2 = s → ∀ b0, ¬ Q i = [] → (z i 2).toNatClampNeg = b0 → b0 ∉ L) → ch (nx' s2) h0 L := by
    intro s2 h0 L hch h1 h2
    by_cases hss : s2 = s
    · subst hss
      rw [hn]
      split
      · rw [u2_r]
        exact ch_upd (h1 rfl) hch
      · rename_i hne
        rw [u2_r, u2_r]
        exact ch_upd (h2 rfl _ hne rfl) (ch_upd (h1 rfl) hch)
    · rw [hn]
      split
      · rw [u2_rn nx _ hss]
        exact hch
      · rw [u2_rn _ _ hss, u2_rn nx _ hss]
        exact hch
  refine ⟨fun j => ?_, fun s2 => ?_⟩
  · by_cases hj : j = i
    · subst hj
      obtain ⟨q1, q2, q3, q4⟩ := hq j
      rw [hi] at q2 q4
      have hne2 : ∀ m : Nat, ¬ m = 3 → u2 (u2 (u2 z j 1 o) j 2 (nI c)) j 3 (z j 3 + 1) j m = u2 (u2 z j 1 o) j 2 (nI c) j m := fun m hm => u2_n _ _ (fun z => hm z.2)
      refine ⟨?_, ?_, ?_, ?_⟩
      · rw [hz, u2_s, u1_s, List.length_append, List.length_singleton, q1, nI_1]
      · rw [hi, u1_s, hz, hne2 1 (by decide), u2_n _ _ (fun z => absurd z.2 (by decide)), u2_s, ho]
        by_cases hne : Q j = []
        · rw [if_pos hne, hne]
          exact ⟨rfl, trivial⟩
        · rw [if_neg hne]
          obtain ⟨l0, b0, e0, -, -, b1, -, -, b4⟩ := hlast hne
          rw [hn, if_neg hne, b4, e0, u2_r, u2_r]
          refine ch_app b1 (ch_upd ?_ (by rw [← e0]; exact q2))
          rw [← e0]
          exact hcn j hi
      · intro l0 c0 h0
        rw [u1_s] at h0
        have := (List.append_inj' h0 rfl).2
        rw [hz, hne2 2 (by decide), u2_s]
        injection this with h1 _
        rw [h1]
      · rw [hi, u1_s, List.map_append, u2_s, ← q4]
        congr 1
        · apply List.map_congr_left
          intro a ha
          have : ¬ a = c := fun z => hcn j hi (by rw [← z]; exact ha)
          rw [u2_n _ _ (fun z => this z.2), u2_n _ _ (fun z => this z.2)]
        · rw [List.map_singleton, u2_s, u2_s]
    · obtain ⟨q1, q2, q3, q4⟩ := hq j
      have hzj : ∀ m, z' j m = z j m := fun m => by
        rw [hz, u2_n _ _ (fun z => hj z.1), u2_n _ _ (fun z => hj z.1), u2_n _ _ (fun z => hj z.1)]
      refine ⟨?_, ?_, ?_, ?_⟩
      · rw [hzj, u1_n Q _ hj]
        exact q1
      · rw [hzj, u1_n Q _ hj]
        refine hkeep _ _ _ q2 (fun z => hcn j z) (fun z b0 hne hb => ?_)
        obtain ⟨l0, b1, -, -, -, -, -, b3, b4⟩ := hlast hne
        rw [← hb, b4]
        exact b3 j z hj
      · intro l0 c0 h0
        rw [u1_n Q _ hj] at h0
        rw [hzj]
        exact q3 l0 c0 h0
      · rw [u1_n Q _ hj, u2_n q _ (fun z => hj (by omega)), ← q4]
        apply List.map_congr_left
        intro a ha
        by_cases hs2 : j / 16 = s
        · have : ¬ a = c := fun z => hcn j hs2 (by rw [← z]; exact ha)
          rw [u2_n _ _ (fun z => this z.2), u2_n _ _ (fun z => this z.2)]
        · rw [u2_n _ _ (fun z => hs2 z.1), u2_n _ _ (fun z => hs2 z.1)]
  · by_cases hss : s2 = s
    · subst hss
      obtain ⟨s1, s3, s4⟩ := hs s2
      rw [hc] at s1
      have hQ : ∀ j, j < 16 → ¬ j = i % 16 → u1 Q i (Q i ++ [c]) (16 * s2 + j) = Q (16 * s2 + j) := fun j _ hj => u1_n Q _ (by omega)
      have e1 : 16 * s2 + i % 16 = i := by omega
      refine ⟨?_, fun c' => ?_, ?_⟩
      · rw [u2_s, u1_s]
        refine hkeep _ _ _ s1.2 (fun _ => hcl) (fun _ b0 hne hb => ?_)
        obtain ⟨l0, b1, -, -, -, -, b2, -, b4⟩ := hlast hne
        rw [← hb, b4]
        intro z
        exact b2 (by rw [hc]; exact List.mem_cons_of_mem _ z)
      · have h3 := s3 c'
        have hu := su_up (f := fun i => (Q (16 * s2 + i)).count c') (g := fun j => (u1 Q i (Q i ++ [c]) (16 * s2 + j)).count c') (n := 16) (i := i % 16) (by omega) (fun j hj hji => by simp only [hQ j hj hji])
        simp only [e1, u1_s, List.count_append] at hu
        rw [u1_s, ← h3, hc]
        have e5 : List.count c' (c :: l) = List.count c' l + List.count c' [c] := by
          rw [List.count_cons, List.count_singleton]
        rw [e5]
        omega
      · have hu := su_up (f := fun i => (Q (16 * s2 + i)).length) (g := fun j => (u1 Q i (Q i ++ [c]) (16 * s2 + j)).length) (n := 16) (i := i % 16) (by omega) (fun j hj hji => by simp only [hQ j hj hji])
        simp only [e1, u1_s, List.length_append, List.length_singleton] at hu
        rw [u1_s, ← s4, hc, List.length_cons]
        omega
    · obtain ⟨s1, s3, s4⟩ := hs s2
      have hQ : ∀ j, j < 16 → u1 Q i (Q i ++ [c]) (16 * s2 + j) = Q (16 * s2 + j) := fun j hj => u1_n Q _ (by omega)
      refine ⟨?_, fun c' => ?_, ?_⟩
      · rw [u2_n e _ (fun z => hss z.1), u1_n SP _ hss]
        exact hkeep _ _ _ s1 (fun z => absurd z hss) (fun z => absurd z hss)
      · rw [u1_n SP _ hss, ← s3 c']
        congr 1
        exact su_congr (fun j hj => by rw [hQ j hj])
      · rw [u1_n SP _ hss, ← s4]
        congr 1
        exact su_congr (fun j hj => by rw [hQ j hj])
/-- the cells' side of a drop: queue i gives its oldest cell c back -/
theorem cQ_drop {P : az_P} {e z wd mk nx : Nat → Nat → Int32} {q : az_q} {Q SP : Nat → List Nat} (h : cQ P e z wd mk nx q Q SP) {i s c : Nat} {l : List Nat} (hi : i / 16 = s) (hc : Q i = c :: l) (z' : Nat → Nat → Int32) (hz : z' = u2 (u2 z i 1 (nx s c)) i 3 (z i 3 - 1)) :
    cQ P (u2 e s 3 (nI c)) z' wd mk (u2 nx s c (e s 3)) (u2 q (i % 2) (i / 2) (q (i % 2) (i / 2)).tail) (u1 Q i l) (u1 SP s (c :: SP s)) := by
  obtain ⟨hq, hs⟩ := h
  have hcq : c ∈ Q i := by rw [hc]; exact List.mem_cons_self
  obtain ⟨hclt, hc1, hcs, hcn⟩ := cQs_lt (hs s) hi hcq
  have hcl : c ∉ l := by
    intro z
    rw [hc, List.count_cons_self] at hc1
    have := List.count_pos_iff.mpr z
    omega
  have hkeep : ∀ (s2 : Nat) (h0 : Int32) (L : List Nat), ch (nx s2) h0 L → (s2 = s → c ∉ L) → ch (u2 nx s c (e s 3) s2) h0 L := by
    intro s2 h0 L hch h1
    by_cases hss : s2 = s
    · subst hss
      rw [u2_r]
      exact ch_upd (h1 rfl) hch
    · rw [u2_rn nx _ hss]
      exact hch
  refine ⟨fun j => ?_, fun s2 => ?_⟩
  · by_cases hj : j = i
    · subst hj
      obtain ⟨q1, q2, q3, q4⟩ := hq j
      rw [hc] at q1 q2 q4
      rw [hi] at q2
      refine ⟨?_, ?_, ?_, ?_⟩
      · rw [hz, u2_s, u1_s, q1, List.length_cons, nI_pred]
      · rw [hi, u1_s, hz, u2_n _ _ (fun z => absurd z.2 (by decide)), u2_s]
        exact hkeep s _ _ q2.2 (fun _ => hcl)
      · intro l0 c0 h0
        rw [u1_s] at h0
        rw [hz, u2_n _ _ (fun z => absurd z.2 (by decide)), u2_n _ _ (fun z => absurd z.2 (by decide))]
        refine q3 (c :: l0) c0 ?_
        rw [hc, h0]
        rfl
      · rw [u1_s, u2_s, ← q4]
        rfl
    · obtain ⟨q1, q2, q3, q4⟩ := hq j
      have hzj : ∀ m, z' j m = z j m := fun m => by
        rw [hz, u2_n _ _ (fun z => hj z.1), u2_n _ _ (fun z => hj z.1)]
      refine ⟨?_, ?_, ?_, ?_⟩
      · rw [hzj, u1_n Q _ hj]
        exact q1
      · rw [hzj, u1_n Q _ hj]
        exact hkeep _ _ _ q2 (fun z => hcn j z hj)
      · intro l0 c0 h0
        rw [u1_n Q _ hj] at h0
        rw [hzj]
        exact q3 l0 c0 h0
      · rw [u1_n Q _ hj, u2_n q _ (fun z => hj (by omega)), ← q4]
  · by_cases hss : s2 = s
    · subst hss
      obtain ⟨s1, s3, s4⟩ := hs s2
      have hQ : ∀ j, j < 16 → ¬ j = i % 16 → u1 Q i l (16 * s2 + j) = Q (16 * s2 + j) := fun j _ hj => u1_n Q _ (by omega)
      have e1 : 16 * s2 + i % 16 = i := by omega
      refine ⟨?_, fun c' => ?_, ?_⟩
      · rw [u2_s, u1_s]
        refine ⟨rfl, ?_⟩
        rw [u2_s]
        exact hkeep _ _ _ s1 (fun _ => hcs)
      · have h3 := s3 c'
        have hu := su_up (f := fun i => (Q (16 * s2 + i)).count c') (g := fun j => (u1 Q i l (16 * s2 + j)).count c') (n := 16) (i := i % 16) (by omega) (fun j hj hji => by simp only [hQ j hj hji])
        simp only [e1, u1_s, hc, List.count_cons] at hu
        rw [u1_s, ← h3, List.count_cons]
        omega
      · have hu := su_up (f := fun i => (Q (16 * s2 + i)).length) (g := fun j => (u1 Q i l (16 * s2 + j)).length) (n := 16) (i := i % 16) (by omega) (fun j hj hji => by simp only [hQ j hj hji])
        simp only [e1, u1_s, hc, List.length_cons] at hu
        rw [u1_s, ← s4, List.length_cons]
        omega
    · obtain ⟨s1, s3, s4⟩ := hs s2
      have hQ : ∀ j, j < 16 → u1 Q i l (16 * s2 + j) = Q (16 * s2 + j) := fun j hj => u1_n Q _ (by omega)
      refine ⟨?_, fun c' => ?_, ?_⟩
      · rw [u2_n e _ (fun z => hss z.1), u1_n SP _ hss]
        exact hkeep _ _ _ s1 (fun z => absurd z hss)
      · rw [u1_n SP _ hss, ← s3 c']
        congr 1
        exact su_congr (fun j hj => by rw [hQ j hj])
      · rw [u1_n SP _ hss, ← s4]
        congr 1
        exact su_congr (fun j hj => by rw [hQ j hj])
