/-! The pure part: the model's frames: lose, corrupt, wire -/
theorem sh_sh (g : Nat → Int32) (B n m c : Nat) : sh (sh g B n c) (B + n) m c = sh g B (n + m) c := by
  funext z
  unfold sh
  by_cases h1 : B + n ≤ z ∧ z < B + n + m
  · rw [if_pos h1, if_neg (by omega), if_pos (by omega)]
  · rw [if_neg h1]
    by_cases h2 : B ≤ z ∧ z < B + n
    · rw [if_pos h2, if_pos (by omega)]
    · rw [if_neg h2, if_neg (by omega)]
theorem di_go (b q C : Nat) (hq : q < 1000) (hC : C < 1000) (σ : sw_S) : ∀ n : Nat, n ≤ 19 → mo_di b (nI q) (nI C) n σ 15 b = sh (σ 15 b) (19 * q) n (19 * C) ∧ (∀ j, ¬ j = b → mo_di b (nI q) (nI C) n σ 15 j = σ 15 j) ∧ ∀ c, ¬ c = 15 → mo_di b (nI q) (nI C) n σ c = σ c
  | 0, _ => by
    rw [sh_0]
    exact ⟨rfl, fun _ _ => rfl, fun _ _ => rfl⟩
  | n + 1, hn => by
    obtain ⟨i1, i2, i3⟩ := di_go b q C hq hC σ n (by omega)
    obtain ⟨a, ha⟩ : ∃ a, a = mo_di b (nI q) (nI C) n σ := ⟨_, rfl⟩
    rw [← ha] at i1 i2 i3
    have e : mo_di b (nI q) (nI C) (n + 1) σ = sw_up a 15 b (19 * q + n) (a 15 b (19 * q + n + 19 * C)) := by
      show mis (mo_di b (nI q) (nI C) n σ) b (nI 19 * nI q + nI n) (mi (mo_di b (nI q) (nI C) n σ) b (nI 19 * (nI q + nI C) + nI n)) = _
      rw [← ha, nI_add, nI_mul, nI_mul, nI_add, nI_add, mis_n _ b (by omega), mi_n _ b (by omega), show 19 * (q + C) + n = 19 * q + n + 19 * C by omega]
    rw [e]
    refine ⟨?_, fun j hj => ?_, fun c hc => ?_⟩
    · rw [up_rowS, i1, sh_s]
    · rw [up_row _ _ _ _ _ hj, i2 j hj]
    · rw [sw_upc _ hc, i3 c hc]
theorem dm_go (a b : Nat) (hab : ¬ a = b) (B C : Nat) (hB : B < 500) (hC : C < 100) (σ : sw_S) : ∀ r : Nat, r ≤ 100 → mo_dm a b B (nI C) r σ 15 a = sh (σ 15 a) B r C ∧ mo_dm a b B (nI C) r σ 15 b = sh (σ 15 b) (19 * B) (19 * r) (19 * C) ∧ (∀ j, ¬ j = a → ¬ j = b → mo_dm a b B (nI C) r σ 15 j = σ 15 j) ∧ ∀ c, ¬ c = 15 → mo_dm a b B (nI C) r σ c = σ c
  | 0, _ => by
    rw [sh_0, Nat.mul_zero, sh_0]
    exact ⟨rfl, rfl, fun _ _ _ => rfl, fun _ _ => rfl⟩
  | r + 1, hr => by
    obtain ⟨i1, i2, i3, i4⟩ := dm_go a b hab B C hB hC σ r (by omega)
    obtain ⟨t, ht⟩ : ∃ t, t = mo_dm a b B (nI C) r σ := ⟨_, rfl⟩
    rw [← ht] at i1 i2 i3 i4
    have e : mo_dm a b B (nI C) (r + 1) σ = mo_di b (nI (B + r)) (nI C) 19 (sw_up t 15 a (B + r) (t 15 a (B + r + C))) := by
      show mo_di b (nI (B + r)) (nI C) 19 (mis (mo_dm a b B (nI C) r σ) a (nI (B + r)) (mi (mo_dm a b B (nI C) r σ) a (nI (B + r) + nI C))) = _
      rw [← ht, nI_add, mis_n _ a (by omega), mi_n _ a (by omega)]
    obtain ⟨d1, d2, d3⟩ := di_go b (B + r) C (by omega) (by omega) (sw_up t 15 a (B + r) (t 15 a (B + r + C))) 19 (Nat.le_refl _)
    rw [e]
    refine ⟨?_, ?_, fun j h1 h2 => ?_, fun c hc => ?_⟩
    · rw [d2 a hab, up_rowS, i1, sh_s]
    · rw [d1, up_row _ _ _ _ _ (fun z => hab z.symm), i2, show 19 * (B + r) = 19 * B + 19 * r by omega, sh_sh, show 19 * r + 19 = 19 * (r + 1) by omega]
    · rw [d2 j h2, up_row _ _ _ _ _ h1, i3 j h1 h2]
    · rw [d3 c hc, sw_upc _ hc, i4 c hc]
theorem getD_drop (F : List (List Int32)) (c n : Nat) : (F.drop c).getD n [] = F.getD (n + c) [] := by
  rw [List.getD_eq_getElem?_getD, List.getD_eq_getElem?_getD, List.getElem?_drop, Nat.add_comm c n]
theorem ra_congr' {g g' : Nat → Int32} {B B' : Nat} {l : List Int32} (h : ra g B l) (he : ∀ j, j < l.length → g' (B' + j) = g (B + j)) : ra g' B' l := fun j hj => (he j hj).trans (h j hj)
theorem mG_drop {g h m : Nat → Int32} {W : Nat} {F : Nat → List (List Int32)} (hG : mG g h m W F) (hW : ∀ s, s < 2 → (F s).length ≤ W) (hl : ∀ s, s < 2 → ∀ l ∈ F s, l.length ≤ 19) {s c : Nat} (hs : s < 2) (hc : c ≤ (F s).length) {g' h' m' : Nat → Int32} (hg : g' = u1 g s (nI ((F s).length - c))) (hh : h' = sh h (W * s) ((F s).length - c) c) (hm : m' = sh m (19 * (W * s)) (19 * ((F s).length - c)) (19 * c)) : mG g' h' m' W (u1 F s ((F s).drop c)) := by
  intro s' hs'
  obtain ⟨a1, a2⟩ := hG s' hs'
  have w1 := hW s hs
  have w2 := hW s' hs'
  by_cases hss : s' = s
  · subst hss
    rw [u1_s, hg, u1_s, List.length_drop]
    refine ⟨rfl, fun n hn => ?_⟩
    obtain ⟨b1, b2⟩ := a2 (n + c) (by omega)
    have b3 := hl s' hs' _ (getD_mem (n := n + c) (by omega))
    rw [getD_drop, hh, hm]
    refine ⟨?_, ra_congr' b2 (fun j hj => ?_)⟩
    · rw [sh_in hn]
      exact b1
    · rw [show 19 * (W * s' + n) + j = 19 * (W * s') + (19 * n + j) by omega, sh_in (by omega)]
      congr 1
      omega
  · rw [u1_n _ _ hss, hg, u1_n _ _ hss]
    refine ⟨a1, fun n hn => ?_⟩
    obtain ⟨b1, b2⟩ := a2 n hn
    have b3 := hl s' hs' _ (getD_mem hn)
    rw [hh, hm]
    rcases (by omega : (s = 0 ∧ s' = 1) ∨ (s = 1 ∧ s' = 0)) with ⟨rfl, rfl⟩ | ⟨rfl, rfl⟩
    · refine ⟨?_, ra_congr b2 (fun j hj => sh_out (by omega))⟩
      rw [sh_out (by omega)]
      exact b1
    · refine ⟨?_, ra_congr b2 (fun j hj => sh_out (by omega))⟩
      rw [sh_out (by omega)]
      exact b1
theorem ai_l19 {P : az_P} (hP : az_ok P) {A : az} (hai : ai P A) {r : Nat} {l : List Int32} (hl : l ∈ A.2.2 r) : 2 ≤ l.length ∧ l.length ≤ 19 := by
  have hp := hP.2.1
  have := ((hai.2.2.2.2 r).2 l hl).1
  omega
theorem mr_dr {P : az_P} (hP : az_ok P) {σ : sw_S} {A : az} (hai : ai P A) (h : mr P σ A) {s : Nat} (hs : s < 2) {l : List Int32} {ls : List (List Int32)} (hq : A.2.2 (2 * s + 1) = l :: ls) : mr P (mo_dr (nI s) σ) (af A (2 * s + 1) ls) ∧ mo_op2 (nI s) σ ∧ mo_dr (nI s) σ 15 38 = σ 15 38 ∧ mo_dr (nI s) σ 8 = σ 8 := by
  have hp4 := hP.2.2.2.2.1
  have hf := (ai_f hai s).2
  have e25 := mr_25 h hs
  have hlen : (A.2.2 (2 * s + 1)).length - 1 = ls.length := by rw [hq]; rfl
  have hl1 : 1 ≤ (A.2.2 (2 * s + 1)).length := by rw [hq, List.length_cons]; omega
  have e25' : mi σ 25 (nI s) - 1 = nI ls.length := by
    rw [e25, show (1 : Int32) = nI 1 from rfl, nI_sub hl1, hlen]
  have e : mo_dr (nI s) σ = mo_dm 26 27 (20 * s) (nI 1) ls.length (sw_up σ 15 25 s (nI ls.length)) := by
    unfold mo_dr mo_o1
    rw [e25', nI_clamp (by omega), nI_clamp (by omega), mis_n _ 25 (by omega)]
    rfl
  rw [e]
  obtain ⟨i1, i2, i3, i4⟩ := dm_go 26 27 (by decide) (20 * s) 1 (by omega) (by omega) (sw_up σ 15 25 s (nI ls.length)) ls.length (by omega)
  refine ⟨?_, ⟨s, ls.length, hs, by omega, rfl, e25'⟩, by rw [i3 38 (by decide) (by decide), up_row _ _ _ _ _ (by decide)], by rw [i4 8 (by decide), sw_upc _ (by decide)]⟩
  have hd : ls = (A.2.2 (2 * s + 1)).drop 1 := by rw [hq]; rfl
  refine mr_f1 h (by rw [i4 8 (by decide), sw_upc _ (by decide)]) (by rw [i4 16 (by decide), sw_upc _ (by decide)]) (fun j h1 h2 h3 => by rw [i3 j h2 h3, up_row _ _ _ _ _ h1]) ?_
  have := mG_drop (s := s) (c := 1) h.2.2.2.2.2.1 (fun s' hs' => by have := (ai_f hai s').2; show (A.2.2 (2 * s' + 1)).length ≤ 20; omega) (fun s' hs' l' hl' => (ai_l19 hP hai hl').2) hs hl1 (g' := mo_dm 26 27 (20 * s) (nI 1) ls.length (sw_up σ 15 25 s (nI ls.length)) 15 25) (h' := mo_dm 26 27 (20 * s) (nI 1) ls.length (sw_up σ 15 25 s (nI ls.length)) 15 26) (m' := mo_dm 26 27 (20 * s) (nI 1) ls.length (sw_up σ 15 25 s (nI ls.length)) 15 27) (by show _ = u1 _ s (nI ((A.2.2 (2 * s + 1)).length - 1)); rw [hlen, i3 25 (by decide) (by decide), up_rowS]) (by show _ = sh _ _ ((A.2.2 (2 * s + 1)).length - 1) 1; rw [hlen, i1, up_row _ _ _ _ _ (by decide)]) (by show _ = sh _ _ (19 * ((A.2.2 (2 * s + 1)).length - 1)) (19 * 1); rw [hlen, i2, up_row _ _ _ _ _ (by decide)])
  rw [← hd] at this
  exact this
theorem L_lose {P : az_P} (hP : az_ok P) {σ : sw_S} {A : az} (hai : ai P A) (h : mr P σ A) (i : Int32) : (gX8_lose (lz P) 0 i σ).1 ∧ (mo_lo i σ).1 = (O_lose i A).1 ∧ mr P (mo_lo i σ).2 (O_lose i A).2 := by
  rcases dS_of i with ⟨s, hs, he, h1, -, h3⟩ | ⟨h1, -, h3⟩
  · have e25 := mr_25 h hs
    have hp4 := hP.2.2.2.2.1
    have hf := (ai_f hai s).2
    unfold gX8_lose O_lose mo_lo
    rw [h1, h3, if_neg (by decide), he, e25]
    dsimp only
    match hq : A.2.2 (2 * s + 1) with
    | [] =>
      refine ⟨⟨lz_mo P, fun _ => ⟨vp_in_nI hs (by decide), fun z => absurd nI_0 z⟩⟩, ?_⟩
      rw [if_pos (by exact nI_0)]
      exact ⟨rfl, h⟩
    | l :: ls =>
      rw [hq] at hf
      obtain ⟨d1, d2, -, -⟩ := mr_dr hP hai h hs hq
      refine ⟨⟨lz_mo P, fun _ => ⟨vp_in_nI hs (by decide), fun _ => d2⟩⟩, ?_⟩
      rw [if_neg (nI_ne0 (by rw [List.length_cons]; omega) (by omega))]
      exact ⟨rfl, d1⟩
  · unfold gX8_lose O_lose mo_lo
    rw [h1, h3, if_pos rfl]
    exact ⟨⟨lz_mo P, fun z => absurd rfl z⟩, rfl, h⟩
theorem mr_26 {P : az_P} {σ : sw_S} {A : az} (h : mr P σ A) {s n : Nat} (hs : s < 2) (hn : n < (A.2.2 (2 * s + 1)).length) (hn2 : n < 20) : mi σ 26 (20 * nI s + nI n) = nI ((A.2.2 (2 * s + 1)).getD n []).length := by
  rw [show (20 : Int32) = nI 20 from rfl, nI_mul, nI_add, mi_n σ 26 (by omega)]
  exact ((h.2.2.2.2.2.1 s hs).2 n hn).1
theorem mG_set {g h m : Nat → Int32} {W : Nat} {F : Nat → List (List Int32)} (hG : mG g h m W F) (hW : ∀ s, s < 2 → (F s).length ≤ W) (hl : ∀ s, s < 2 → ∀ l ∈ F s, l.length ≤ 19) {s j : Nat} (hs : s < 2) {l : List Int32} {ls : List (List Int32)} (hq : F s = l :: ls) (hj : j < l.length) (v : Int32) {m' : Nat → Int32} (hm : m' = u1 m (19 * (W * s) + j) v) : mG g h m' W (u1 F s (l.set j v :: ls)) := by
  intro s' hs'
  obtain ⟨a1, a2⟩ := hG s' hs'
  have w1 := hW s hs
  have w2 := hW s' hs'
  have l1 := hl s hs l (by rw [hq]; exact List.mem_cons_self)
  by_cases hss : s' = s
  · subst hss
    rw [u1_s]
    rw [hq] at a1 a2 w2
    refine ⟨a1, fun n hn => ?_⟩
    obtain ⟨b1, b2⟩ := a2 n hn
    match n with
    | 0 =>
      have b1 : h (W * s' + 0) = nI l.length := b1
      have b2 : ra m (19 * (W * s' + 0)) l := b2
      show h (W * s' + 0) = nI (l.set j v).length ∧ ra m' (19 * (W * s' + 0)) (l.set j v)
      rw [List.length_set, hm, Nat.add_zero]
      rw [Nat.add_zero] at b1 b2
      exact ⟨b1, ra_set b2 v⟩
    | n + 1 =>
      have b2 : ra m (19 * (W * s' + (n + 1))) (ls.getD n []) := b2
      refine ⟨b1, ?_⟩
      show ra m' (19 * (W * s' + (n + 1))) (ls.getD n [])
      rw [hm]
      exact ra_out b2 (by omega)
  · rw [u1_n _ _ hss]
    refine ⟨a1, fun n hn => ?_⟩
    obtain ⟨b1, b2⟩ := a2 n hn
    have b3 := hl s' hs' _ (getD_mem hn)
    rw [hm]
    refine ⟨b1, ra_out b2 ?_⟩
    rw [hq, List.length_cons] at w1
    rcases (by omega : (s = 0 ∧ s' = 1) ∨ (s = 1 ∧ s' = 0)) with ⟨rfl, rfl⟩ | ⟨rfl, rfl⟩
    · omega
    · omega
theorem L_corrupt {P : az_P} (hP : az_ok P) {σ : sw_S} {A : az} (hai : ai P A) (h : mr P σ A) (i k m : Int32) : (gX8_corrupt (lz P) 0 i k m σ).1 ∧ (mo_co i k m σ).1 = (O_corrupt i k m A).1 ∧ mr P (mo_co i k m σ).2 (O_corrupt i k m A).2 := by
  rcases dS_of i with ⟨s, hs, he, h1, -, h3⟩ | ⟨h1, -, h3⟩
  · have e25 := mr_25 h hs
    have hp4 := hP.2.2.2.2.1
    have hf := (ai_f hai s).2
    have e20 : (20 : Int32) * nI s = nI (20 * s) := by rw [show (20 : Int32) = nI 20 from rfl, nI_mul]
    have v20 : vp_in (20 * nI s) 40 := by rw [e20]; exact vp_in_nI (by omega) (by decide)
    unfold gX8_corrupt O_corrupt mo_co
    rw [h1, h3, if_neg (by decide), he, e25]
    dsimp only
    match hq : A.2.2 (2 * s + 1) with
    | [] =>
      refine ⟨⟨lz_mo P, fun _ => ⟨vp_in_nI hs (by decide), v20, fun z => absurd nI_0 z⟩⟩, ?_⟩
      rw [if_pos (by exact nI_0)]
      exact ⟨rfl, h⟩
    | l :: ls =>
      rw [hq, List.length_cons] at hf
      have hl := ai_l19 hP hai (r := 2 * s + 1) (l := l) (by rw [hq]; exact List.mem_cons_self)
      obtain ⟨b1, b2⟩ := (h.2.2.2.2.2.1 s hs).2 0 (by show 0 < (A.2.2 (2 * s + 1)).length; rw [hq, List.length_cons]; omega)
      have b1 : σ 15 26 (20 * s + 0) = nI ((A.2.2 (2 * s + 1)).getD 0 []).length := b1
      have b2 : ra (σ 15 27) (19 * (20 * s + 0)) ((A.2.2 (2 * s + 1)).getD 0 []) := b2
      rw [hq] at b1 b2
      have b1 : σ 15 26 (20 * s) = nI l.length := b1
      have b2 : ra (σ 15 27) (19 * (20 * s)) l := b2
      have e26 : mi σ 26 (20 * nI s) = nI l.length := by rw [e20, mi_n σ 26 (by omega), b1]
      rw [e26]
      refine ⟨⟨lz_mo P, fun _ => ⟨vp_in_nI hs (by decide), v20, fun _ c1 c2 => ?_⟩⟩, ?_⟩
      · obtain ⟨j, hj, rfl⟩ := nI_of c1
        rw [nI_leI (by omega) hj] at c2
        unfold mo_cx
        rw [show (380 : Int32) = nI 380 from rfl, nI_mul, nI_add]
        exact vp_in_nI (by omega) (by decide)
      · rw [if_neg (nI_ne0 (by rw [List.length_cons]; omega) (by rw [List.length_cons]; omega))]
        show _ = (o_cp (2 * s + 1) k m A l ls).1 ∧ mr P _ (o_cp (2 * s + 1) k m A l ls).2
        unfold o_cp
        by_cases c1 : k < 0
        · have hn : ¬ (0 ≤ k ∧ k < nI l.length) := fun z => absurd z.1 (Int32.not_le.mpr c1)
          rw [if_pos c1, if_neg hn]
          refine ⟨?_, ?_⟩
          · split <;> rfl
          · split <;> exact h
        · rw [if_neg c1]
          by_cases c2 : nI l.length ≤ k
          · have hn : ¬ (0 ≤ k ∧ k < nI l.length) := fun z => absurd z.2 (Int32.not_lt.mpr c2)
            rw [if_pos c2, if_neg hn]
            refine ⟨?_, ?_⟩
            · split <;> rfl
            · split <;> exact h
          · have hy : 0 ≤ k ∧ k < nI l.length := ⟨Int32.not_lt.mp c1, Int32.not_le.mp c2⟩
            rw [if_neg c2, if_pos hy]
            by_cases c3 : m = 0
            · rw [if_pos c3, if_pos c3]
              exact ⟨rfl, h⟩
            · rw [if_neg c3, if_neg c3]
              refine ⟨rfl, ?_⟩
              obtain ⟨j, hj, rfl⟩ := nI_of c1
              rw [nI_leI (by omega) hj] at c2
              show mr P (mis σ 27 (mo_cx (nI s) (nI j)) (mi σ 27 (mo_cx (nI s) (nI j)) ^^^ m)) (af A (2 * s + 1) (l.set (nI j).toNatClampNeg (l.getD (nI j).toNatClampNeg 0 ^^^ m) :: ls))
              have ex : mo_cx (nI s) (nI j) = nI (19 * (20 * s) + j) := by
                unfold mo_cx
                rw [show (380 : Int32) = nI 380 from rfl, nI_mul, nI_add, show 380 * s + j = 19 * (20 * s) + j by omega]
              rw [ex, mi_n σ 27 (by omega), b2 j (by omega), nI_clamp hj, mis_n _ 27 (by omega)]
              refine mr_f1 h (sw_upc _ (by decide)) (sw_upc _ (by decide)) (fun j' h1 h2 h3 => up_row _ _ _ _ _ h3) ?_
              rw [up_row _ _ _ _ _ (by decide : ¬ 25 = 27), up_row _ _ _ _ _ (by decide : ¬ 26 = 27)]
              exact mG_set h.2.2.2.2.2.1 (fun s' hs' => by have := (ai_f hai s').2; show (A.2.2 (2 * s' + 1)).length ≤ 20; omega) (fun s' hs' l' hl' => (ai_l19 hP hai hl').2) hs hq (by omega) _ (up_rowS _ _ _ _ _)
  · unfold gX8_corrupt O_corrupt mo_co
    rw [h1, h3, if_pos rfl]
    exact ⟨⟨lz_mo P, fun z => absurd rfl z⟩, rfl, h⟩
theorem L_wire {P : az_P} (hP : az_ok P) {σ : sw_S} {A : az} (hai : ai P A) (h : mr P σ A) (i f j : Int32) : (gX8_wire (lz P) 0 i f j σ).1 ∧ mo_wr i f j σ = O_wire i f j A := by
  rcases dS_of i with ⟨s, hs, he, h1, -, h3⟩ | ⟨h1, -, h3⟩
  · have e25 := mr_25 h hs
    have hp4 := hP.2.2.2.2.1
    have hf := (ai_f hai s).2
    unfold gX8_wire O_wire mo_wr
    rw [h1, h3, if_neg (by decide), he, e25]
    dsimp only
    unfold o_wr
    by_cases c1 : f < 0
    · rw [if_pos c1, if_pos c1]
      exact ⟨⟨lz_mo P, fun _ => ⟨vp_in_nI hs (by decide), fun z => absurd c1 z⟩⟩, rfl⟩
    · rw [if_neg c1, if_neg c1]
      by_cases c2 : nI (A.2.2 (2 * s + 1)).length ≤ f
      · rw [if_pos c2, if_pos c2]
        exact ⟨⟨lz_mo P, fun _ => ⟨vp_in_nI hs (by decide), fun _ z => absurd c2 z⟩⟩, rfl⟩
      · rw [if_neg c2, if_neg c2]
        obtain ⟨n, hn, rfl⟩ := nI_of c1
        rw [nI_leI (by omega) hn] at c2
        have hn2 : n < (A.2.2 (2 * s + 1)).length := by omega
        have e26 := mr_26 h hs hn2 (by omega)
        obtain ⟨l, hl⟩ : ∃ l, l = (A.2.2 (2 * s + 1)).getD n [] := ⟨_, rfl⟩
        have hm := ai_l19 hP hai (getD_mem hn2)
        have b2 : ra (σ 15 27) (19 * (20 * s + n)) ((A.2.2 (2 * s + 1)).getD n []) := ((h.2.2.2.2.2.1 s hs).2 n hn2).2
        rw [nI_clamp hn, e26]
        rw [← hl] at hm b2 ⊢
        have ex : ∀ k : Nat, mo_wx (nI s) (nI n) (nI k) = nI (19 * (20 * s + n) + k) := fun k => by
          show nI 19 * (nI 20 * nI s + nI n) + nI k = _
          rw [nI_mul, nI_add, nI_mul, nI_add]
        refine ⟨⟨lz_mo P, fun _ => ⟨vp_in_nI hs (by decide), fun _ _ => ⟨?_, fun c3 c4 => ?_⟩⟩⟩, ?_⟩
        · rw [show (20 : Int32) = nI 20 from rfl, nI_mul, nI_add]
          exact vp_in_nI (by omega) (by decide)
        · obtain ⟨k, hk, rfl⟩ := nI_of c3
          rw [nI_ltI hk (by omega)] at c4
          rw [ex]
          exact vp_in_nI (by omega) (by decide)
        · unfold la
          by_cases c3 : j < 0
          · rw [if_pos c3, if_neg (fun z => absurd z.1 (Int32.not_le.mpr c3))]
          · rw [if_neg c3]
            by_cases c4 : j < nI l.length
            · rw [if_pos c4, if_pos ⟨Int32.not_lt.mp c3, c4⟩]
              obtain ⟨k, hk, rfl⟩ := nI_of c3
              rw [nI_ltI hk (by omega)] at c4
              rw [ex, mi_n σ 27 (by omega), nI_clamp hk]
              exact b2 k c4
            · rw [if_neg c4, if_neg (fun z => c4 z.2)]
  · unfold gX8_wire O_wire mo_wr
    rw [h1, h3, if_pos rfl]
    exact ⟨⟨lz_mo P, fun z => absurd rfl z⟩, rfl⟩
