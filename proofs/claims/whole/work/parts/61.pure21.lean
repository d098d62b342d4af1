/-! The pure part: the model's timeout -/
theorem mtc_go (a q : Nat) (ha : ¬ a = 38) (hq : q < 100000) (σ : sw_S) : ∀ n : Nat, n ≤ 19 → mt_c a (nI q) n σ 15 38 = cpy (σ 15 38) 0 n (fun j => σ 15 a (q + j)) ∧ (∀ j, ¬ j = 38 → mt_c a (nI q) n σ 15 j = σ 15 j) ∧ ∀ c, ¬ c = 15 → mt_c a (nI q) n σ c = σ c
  | 0, _ => by
    rw [cpy_0]
    exact ⟨rfl, fun _ _ => rfl, fun _ _ => rfl⟩
  | n + 1, hn => by
    obtain ⟨i1, i2, i3⟩ := mtc_go a q ha hq σ n (by omega)
    obtain ⟨t, ht⟩ : ∃ t, t = mt_c a (nI q) n σ := ⟨_, rfl⟩
    rw [← ht] at i1 i2 i3
    have e : mt_c a (nI q) (n + 1) σ = sw_up t 15 38 n (t 15 a (q + n)) := by
      show mis (mt_c a (nI q) n σ) 38 (nI n) (mi (mt_c a (nI q) n σ) a (nI q + nI n)) = _
      rw [← ht, nI_add, mis_n _ 38 (by omega), mi_n _ a (by omega)]
    rw [e]
    refine ⟨?_, fun j hj => ?_, fun c hc => ?_⟩
    · rw [up_rowS, i1, i2 a ha]
      have := cpy_s (σ 15 38) 0 n (fun j => σ 15 a (q + j))
      rw [Nat.zero_add] at this
      exact this
    · rw [up_row _ _ _ _ _ hj, i2 j hj]
    · rw [sw_upc _ hc, i3 c hc]
/-- a frame that lies in a row comes into the draft -/
theorem mD_c {P : az_P} {σ : sw_S} {A : az} (h : mr P σ A) {a q : Nat} (ha : ¬ a = 38) (hq : q < 100000) {l : List Int32} (hl : l.length ≤ 19) (hr : ra (σ 15 a) q l) : mD P (mt_c a (nI q) l.length (sw_up σ 8 0 39 (nI l.length))) A l := by
  obtain ⟨i1, i2, i3⟩ := mtc_go a q ha hq (sw_up σ 8 0 39 (nI l.length)) l.length hl
  refine ⟨mr_s h (fun j hj => ?_) (fun j hj => ?_) ?_, ?_, fun j hj => ?_, hl⟩
  · rw [i3 8 (by decide), sw_ups, u2_n _ _ (fun z => absurd z.2 (by omega))]
  · rw [i2 j hj, sw_upc _ (by decide)]
  · rw [i3 16 (by decide), sw_upc _ (by decide)]
  · rw [i3 8 (by decide), sw_ups, u2_s]
  · rw [i1, cpy_in hj, sw_upc _ (by decide)]
    exact hr j hj
theorem ra_dl {g : Nat → Int32} {B : Nat} {l : List Int32} (h : ra g B l) : ra g B l.dropLast := fun j hj => by
  rw [List.length_dropLast] at hj
  rw [h j (by omega), List.getD_eq_getElem?_getD, List.getD_eq_getElem?_getD, List.getElem?_dropLast, if_pos (by omega)]
theorem dl_set {l : List Int32} (h : 2 ≤ l.length) (v : Int32) : (l.set 0 v).dropLast = l.dropLast.set 0 v := by
  match l, h with
  | a :: b :: t, _ => rfl
theorem mr_23 {P : az_P} {σ : sw_S} {A : az} (h : mr P σ A) {s n : Nat} (hs : s < 2) (hn : n < (A.2.2 (2 * s)).length) (hn2 : n < 15) : mi σ 23 (15 * nI s + nI n) = nI ((A.2.2 (2 * s)).getD n []).length := by
  rw [show (15 : Int32) = nI 15 from rfl, nI_mul, nI_add, mi_n σ 23 (by omega)]
  exact ((h.2.2.2.2.1 s hs).2 n hn).1
theorem mts_go {P : az_P} (hP : az_ok P) {σ : sw_S} {A : az} (hai : ai P A) (h : mr P σ A) {s n : Nat} (hs : s < 2) (hn : n < (A.2.2 (2 * s)).length) (hw : (A.2.2 (2 * s + 1)).length < P 4) : (∃ z : Nat, z ≤ 18 ∧ mi σ 23 (15 * nI s + nI n) - 1 = nI z) ∧ mo_wp 0 (nI s) (mo_fs 0 (mt_a 0 (nI s) (15 * nI s + nI n) σ)) ∧ mr P (mt_s 0 (nI s) (15 * nI s + nI n) σ) (o_ln s (o_rw ((A.2.2 (2 * s)).getD n []) (A.1 29 s)) A) := by
  have hp1 := hP.2.1
  have hp2 := hP.2.2.1
  have hf := (ai_f hai s).1
  have e23 := mr_23 h hs hn (by omega)
  have hr : ra (σ 15 24) (19 * (15 * s + n)) ((A.2.2 (2 * s)).getD n []) := ((h.2.2.2.2.1 s hs).2 n hn).2
  have hm := ai_l19 hP hai (getD_mem hn)
  obtain ⟨l, hl⟩ : ∃ l, l = (A.2.2 (2 * s)).getD n [] := ⟨_, rfl⟩
  rw [← hl] at e23 hr hm ⊢
  have e1 : mi σ 23 (15 * nI s + nI n) - 1 = nI (l.length - 1) := by rw [e23, show (1 : Int32) = nI 1 from rfl, nI_sub (by omega)]
  refine ⟨⟨l.length - 1, by omega, e1⟩, ?_⟩
  have hdl : l.dropLast.length = l.length - 1 := List.length_dropLast
  have c1 := mD_c h (a := 24) (q := 19 * (15 * s + n)) (by decide) (by omega) (l := l.dropLast) (by omega) (ra_dl hr)
  rw [hdl] at c1
  obtain ⟨y, hy⟩ : ∃ y, y = mt_c 24 (nI (19 * (15 * s + n))) (l.length - 1) (sw_up σ 8 0 39 (nI (l.length - 1))) := ⟨_, rfl⟩
  rw [← hy] at c1
  obtain ⟨v, ev, hv⟩ := hai.v 29 s
  have e0 : mi y 38 0 = l.getD 0 0 := by
    have := mD_at c1 (j := 0) (by omega)
    rw [nI_0] at this
    rw [this, List.getD_eq_getElem?_getD, List.getD_eq_getElem?_getD, List.getElem?_dropLast, if_pos (by omega)]
  have ea : mt_a 0 (nI s) (15 * nI s + nI n) σ = sw_up y 15 38 0 ((l.getD 0 0 &&& (-16711681 : Int32)) ||| nI v <<< (16 &&& 31)) := by
    unfold mt_a mt_1
    rw [e1]
    have e39 : sw_up σ 8 0 39 (nI (l.length - 1)) 8 0 39 = nI (l.length - 1) := by rw [sw_ups, u2_s]
    rw [e39, nI_clamp (by omega), show (15 : Int32) = nI 15 from rfl, show (19 : Int32) = nI 19 from rfl, nI_mul, nI_add, nI_mul, ← hy]
    unfold mt_2
    rw [e0, c1.1.i 29 rfl (x := s) (by omega), ev]
    rfl
  have c2 : mD P (mt_a 0 (nI s) (15 * nI s + nI n) σ) A (o_r0 l (A.1 29 s)).dropLast := by
    rw [ea]
    unfold o_r0
    rw [dl_set hm.1, ev, b_renew _ (by omega)]
    refine ⟨mr_s c1.1 (fun j hj => by rw [sw_upc _ (by decide)]) (fun j hj => by rw [up_row _ _ _ _ _ hj]) (by rw [sw_upc _ (by decide)]), ?_, ?_, ?_⟩
    · rw [sw_upc _ (by decide), List.length_set]
      exact c1.2.1
    · rw [up_rowS]
      have := ra_set (i := 0) c1.2.2.1 ((l.getD 0 0 &&& (-16711681 : Int32)) ||| nI v <<< (16 &&& 31))
      rw [Nat.add_zero] at this
      exact this
    · rw [List.length_set]
      exact c1.2.2.2
  have hlen : (o_r0 l (A.1 29 s)).dropLast.length = l.length - 1 := by
    unfold o_r0
    rw [List.length_dropLast, List.length_set]
  have c3 := mD_fs c2 (by omega)
  exact mD_wi hP hai.2.2.2 c3 hs hw
theorem mtl_go {P : az_P} (hP : az_ok P) {s : Nat} (hs : s < 2) : ∀ (d j : Nat) (σ : sw_S) (A : az), ai P A → mr P σ A → j + d = (A.2.2 (2 * s)).length → mt_p 0 (nI s) d j σ ∧ (mt_l 0 (nI s) d j σ).1 = (o_ag P s d j (nI j) A).1 ∧ mr P (mt_l 0 (nI s) d j σ).2 (o_ag P s d j (nI j) A).2
  | 0, j, σ, A, hai, h, hj => ⟨trivial, rfl, h⟩
  | d + 1, j, σ, A, hai, h, hj => by
    have hp4 := hP.2.2.2.2.1
    have hp1 := hP.2.1
    have hf := (ai_f hai s).2
    have hle : (σ 8 0 4 ≤ mi σ 25 (nI s)) ↔ ¬ (A.2.2 (2 * s + 1)).length < P 4 := by
      rw [mr_25 h hs, h.1 4 (by decide), nI_leI (by omega) (by omega)]
      omega
    have e1 : mt_l 0 (nI s) (d + 1) j σ = if σ 8 0 4 ≤ mi σ 25 (nI s) then (nI j, σ) else mt_l 0 (nI s) d (j + 1) (mt_s 0 (nI s) (15 * nI s + nI j) σ) := rfl
    have e2 : o_ag P s (d + 1) j (nI j) A = if (A.2.2 (2 * s + 1)).length < P 4 then o_ag P s d (j + 1) (nI j + 1) (o_ln s (o_rw ((A.2.2 (2 * s)).getD j []) (A.1 29 s)) A) else (nI j, A) := rfl
    by_cases c : (A.2.2 (2 * s + 1)).length < P 4
    · obtain ⟨a1, a2, a3⟩ := mts_go hP hai h hs (n := j) (by omega) c
      have hm := ((hai.2.2.2.2 (2 * s)).2 _ (getD_mem (n := j) (by omega))).1
      have hlen := o_rw_len (l := (A.2.2 (2 * s)).getD j []) (by omega) (A.1 29 s)
      have h5 : ai P (o_ln s (o_rw ((A.2.2 (2 * s)).getD j []) (A.1 29 s)) A) := ai_ln hP hai hs (by rw [hlen]; exact hm) (by rw [(rl_e P s).2]; exact c)
      obtain ⟨b1, b2⟩ := mtl_go hP hs d (j + 1) _ _ h5 a3 (by
        show j + 1 + d = (u1 A.2.2 (2 * s + 1) (A.2.2 (2 * s + 1) ++ [o_rw ((A.2.2 (2 * s)).getD j []) (A.1 29 s)]) (2 * s)).length
        rw [u1_n _ _ (by omega)]
        omega)
      refine ⟨fun _ => ⟨a1, a2, b1⟩, ?_⟩
      rw [e1, e2, if_pos c, if_neg (fun z => hle.mp z c), nI_1]
      exact b2
    · refine ⟨fun z => absurd (hle.mpr c) z, ?_⟩
      rw [e1, e2, if_neg c, if_pos (hle.mpr c)]
      exact ⟨rfl, h⟩
theorem L_timeout {P : az_P} (hP : az_ok P) {σ : sw_S} {A : az} (hai : ai P A) (h : mr P σ A) (i : Int32) : (gX8_timeout (lz P) 0 i σ).1 ∧ (mt 0 i σ).1 = (O_timeout P i A).1 ∧ mr P (mt 0 i σ).2 (O_timeout P i A).2 := by
  rcases dS_of i with ⟨s, hs, he, h1, -, h3⟩ | ⟨h1, -, h3⟩
  · have hp2 := hP.2.2.1
    have hf := (ai_f hai s).1
    have e22 := mr_22 h hs
    have key := mtl_go hP hs (A.2.2 (2 * s)).length 0 σ A hai h (by omega)
    rw [nI_0] at key
    unfold gX8_timeout O_timeout mt
    rw [h1, h3, if_neg (by decide), he, e22, nI_clamp (by omega)]
    exact ⟨⟨lz_mo P, fun _ => ⟨s, (A.2.2 (2 * s)).length, hs, by omega, rfl, rfl, key.1⟩⟩, key.2⟩
  · unfold gX8_timeout O_timeout mt
    rw [h1, h3, if_pos rfl]
    exact ⟨⟨lz_mo P, fun z => absurd rfl z⟩, rfl, h⟩
