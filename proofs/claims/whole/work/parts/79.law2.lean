/-! The law: what it makes -/
theorem gs_cok_ad {τ : Type} {Wd : τ → Heap → Prop} {cz sz : τ → Nat} {A : Nat → Prop} {p : Program} {l : Launch} {e : Env} {R : Room} {s : State} {m : MethodId} {args : Array Value} {below : List Frame} {meth : Method} {c : Code} {ad ad' : sw_A} {cc : ByteArray} {nL : Nat} {Qw : State → Prop} {q : Nat × Nat × Nat × gs_F τ} (h : gs_cok Wd cz sz A p l e R s m args below meth c ad ck_V cc nL Qw q) (ha : ∀ avs σ, avs.length = q.2.2.1 → (q.2.2.2 avs σ).1 → (∀ v ∈ avs, sw_em ad v = sw_em ad' v) ∧ ∀ v, (q.2.2.2 avs σ).2.1 = some v → sw_em ad v = sw_em ad' v) : gs_cok Wd cz sz A p l e R s m args below meth c ad' ck_V cc nL Qw q := by
  intro pc H locs lsA avs rest σ hd hlen hva hw hS hf h8 hsz kk
  obtain ⟨e1, e2⟩ := ha avs σ hlen hf
  rw [← List.map_congr_left e1]
  refine h pc H locs lsA avs rest σ hd hlen hva hw hS hf h8 hsz (fun H1 locs1 w1 s1 v1 => ?_)
  have := kk H1 locs1 w1 s1 v1
  have e3 : ((q.2.2.2 avs σ).2.1.toList).map (sw_em ad) = ((q.2.2.2 avs σ).2.1.toList).map (sw_em ad') := List.map_congr_left (fun v hv => e2 v (by simpa using hv))
  rw [e3]
  exact this
theorem adA_ck {sb b0 k : Nat} : sw_em (ck_ad b0) (.inr (some (0, k))) = sw_em (adA sb b0) (.inr (some (0, k))) := rfl
theorem wit_ok (v : Int32) {a c : Nat} (h : a ≤ c) (hc : c < 2 ^ 31) : ∃ k, a ≤ k ∧ k ≤ c ∧ wit7 v (nI a) (nI c) = nI k ∧ wit8 v (nI a) (nI c) = nI k := by
  by_cases hv : v < 0
  · have t0 := Int32.lt_iff_toInt_lt.mp hv
    rw [show (0 : Int32).toInt = 0 from rfl] at t0
    have h1 : v < nI c := Int32.lt_iff_toInt_lt.mpr (by rw [nI_toInt hc]; omega)
    have h2 : ¬ nI a < v := fun z => by
      have := Int32.lt_iff_toInt_lt.mp z
      rw [nI_toInt (by omega)] at this
      omega
    have h3 : ¬ nI a ≤ v := fun z => by
      have := Int32.le_iff_toInt_le.mp z
      rw [nI_toInt (by omega)] at this
      omega
    refine ⟨a, Nat.le_refl a, h, ?_, ?_⟩
    · unfold wit7
      rw [if_pos h1, if_neg h2]
    · unfold wit8
      rw [if_neg h3]
  · obtain ⟨j, hj, rfl⟩ := nI_of hv
    rcases Nat.lt_or_ge j a with q | q
    · refine ⟨a, Nat.le_refl a, h, ?_, ?_⟩
      · unfold wit7
        rw [if_pos (nI_lt (by omega) hc), if_neg (nI_nlt (by omega) (by omega))]
      · unfold wit8
        rw [if_neg (nI_ge q (by omega))]
    · rcases Nat.lt_or_ge j c with q2 | q2
      · refine ⟨j, q, by omega, ?_, ?_⟩
        · unfold wit7
          rw [if_pos (nI_lt q2 hc)]
          rcases Nat.lt_or_ge a j with q3 | q3
          · rw [if_pos (nI_lt q3 hj)]
          · rw [if_neg (nI_nlt q3 (by omega)), show a = j by omega]
        · unfold wit8
          rw [if_pos (nI_le q hj), if_pos (nI_le (by omega) hc)]
      · refine ⟨c, h, Nat.le_refl c, ?_, ?_⟩
        · unfold wit7
          rw [if_neg (nI_nlt q2 hj)]
          rcases Nat.lt_or_ge a c with q3 | q3
          · rw [if_pos (nI_lt q3 hc)]
          · rw [if_neg (nI_nlt q3 (by omega)), show a = c by omega]
        · unfold wit8
          rw [if_pos (nI_le q hj)]
          rcases Nat.lt_or_ge c j with q3 | q3
          · rw [if_neg (nI_ge q3 hj)]
          · rw [if_pos (nI_le q3 hc), show j = c by omega]
theorem kept_ok {k0 k3 : Nat} (h0 : 1 ≤ k0 ∧ k0 ≤ 8) (h3 : 4 ≤ k3 ∧ k3 ≤ 400) : ∃ k5, 1 ≤ k5 ∧ k5 ≤ 200 ∧ n_kept (nI k0) (nI k3) = nI k5 := by
  have e1 : nI k3 / (2 * nI k0) = nI (k3 / (2 * k0)) := by
    rw [show (2 : Int32) * nI k0 = nI (2 * k0) from nI_mul 2 k0, nI_div (by omega) (by omega)]
  have h4 : k3 / (2 * k0) ≤ k3 / 2 := Nat.div_le_div_left (by omega) (by omega)
  unfold n_kept
  rw [e1]
  generalize k3 / (2 * k0) = q at h4 ⊢
  rcases Nat.lt_or_ge 1 q with z | z
  · exact ⟨q, by omega, by omega, if_pos (nI_lt z (by omega))⟩
  · exact ⟨1, by omega, by omega, if_neg (nI_nlt z (by omega))⟩
theorem lim_ok {a0 a1 a2 a3 a4 : Int32} {P : az_P} (hP : P = pw (n_wP a0 a1 a2 a3 a4)) : az_ok P ∧ (∀ j, j < 6 → n_wP a0 a1 a2 a3 a4 j = .inl (nI (P j))) ∧ (wit8 a0 1 8 = nI (P 0) ∧ wit8 a1 1 16 = nI (P 1) ∧ wit8 a2 1 15 = nI (P 2) ∧ wit8 a3 4 400 = nI (P 3) ∧ wit8 a4 1 20 = nI (P 4) ∧ n_kept (wit8 a0 1 8) (wit8 a3 4 400) = nI (P 5)) ∧ ¬ 2 * wit7 a0 1 8 = 0 ∧ ¬ 2 * wit8 a0 1 8 = 0 := by
  obtain ⟨k0, l0, u0, e0, f0⟩ := wit_ok a0 (a := 1) (c := 8) (by decide) (by decide)
  obtain ⟨k1, l1, u1, e1, f1⟩ := wit_ok a1 (a := 1) (c := 16) (by decide) (by decide)
  obtain ⟨k2, l2, u2, e2, f2⟩ := wit_ok a2 (a := 1) (c := 15) (by decide) (by decide)
  obtain ⟨k3, l3, u3, e3, f3⟩ := wit_ok a3 (a := 4) (c := 400) (by decide) (by decide)
  obtain ⟨k4, l4, u4, e4, f4⟩ := wit_ok a4 (a := 1) (c := 20) (by decide) (by decide)
  have e0 : wit7 a0 1 8 = nI k0 := e0
  have e1 : wit7 a1 1 16 = nI k1 := e1
  have e2 : wit7 a2 1 15 = nI k2 := e2
  have e3 : wit7 a3 4 400 = nI k3 := e3
  have e4 : wit7 a4 1 20 = nI k4 := e4
  have f0 : wit8 a0 1 8 = nI k0 := f0
  have f1 : wit8 a1 1 16 = nI k1 := f1
  have f2 : wit8 a2 1 15 = nI k2 := f2
  have f3 : wit8 a3 4 400 = nI k3 := f3
  have f4 : wit8 a4 1 20 = nI k4 := f4
  obtain ⟨k5, l5, u5, e5⟩ := kept_ok ⟨l0, u0⟩ ⟨l3, u3⟩
  have w : n_wP a0 a1 a2 a3 a4 = n_lim (nI k0) (nI k1) (nI k2) (nI k3) (nI k4) := by
    unfold n_wP
    rw [e0, e1, e2, e3, e4]
  have g0 : n_wP a0 a1 a2 a3 a4 0 = .inl (nI k0) := by rw [w]; rfl
  have g1 : n_wP a0 a1 a2 a3 a4 1 = .inl (nI k1) := by rw [w]; rfl
  have g2 : n_wP a0 a1 a2 a3 a4 2 = .inl (nI k2) := by rw [w]; rfl
  have g3 : n_wP a0 a1 a2 a3 a4 3 = .inl (nI k3) := by rw [w]; rfl
  have g4 : n_wP a0 a1 a2 a3 a4 4 = .inl (nI k4) := by rw [w]; rfl
  have g5 : n_wP a0 a1 a2 a3 a4 5 = .inl (nI k5) := by
    rw [w, ← e5]
    rfl
  have p : ∀ {j k : Nat}, k < 2 ^ 31 → n_wP a0 a1 a2 a3 a4 j = .inl (nI k) → P j = k := fun hk hg => by
    rw [hP]
    unfold pw
    rw [hg]
    exact nI_clamp hk
  have p0 := p (by omega) g0
  have p1 := p (by omega) g1
  have p2 := p (by omega) g2
  have p3 := p (by omega) g3
  have p4 := p (by omega) g4
  have p5 := p (by omega) g5
  have z2 : ¬ 2 * nI k0 = 0 := by
    rw [show (2 : Int32) * nI k0 = nI (2 * k0) from nI_mul 2 k0]
    exact nI_ne0 (by omega) (by omega)
  refine ⟨?_, ?_, ?_, by rw [e0]; exact z2, by rw [f0]; exact z2⟩
  · unfold az_ok
    rw [p0, p1, p2, p3, p4, p5]
    omega
  · intro j hj
    match j, hj with
    | 0, _ => rw [p0]; exact g0
    | 1, _ => rw [p1]; exact g1
    | 2, _ => rw [p2]; exact g2
    | 3, _ => rw [p3]; exact g3
    | 4, _ => rw [p4]; exact g4
    | 5, _ => rw [p5]; exact g5
    | j + 6, h => omega
  · rw [f0, f1, f2, f3, f4, p0, p1, p2, p3, p4, p5]
    exact ⟨rfl, rfl, rfl, rfl, rfl, e5⟩
def lc_cell (L : Nat) (xs : Nat → Int32) : gs_F ck_S := fun avs σ => match avs with
  | [.inr (some q), .inl k] => (q = (1, 0) ∧ ¬ k < 0 ∧ σ.2.2.1 ≤ 600000 ∧ σ.2.2.2 ≤ 7302250, some (.inl (cellv L xs k)), σ)
  | _ => (False, none, σ)
def lE0 : Nat → ck_E := fun _ => .inr (0, 0, .inl (fun _ => 0))
def lE1 : Nat → ck_E := u1 lE0 0 (.inl (7, ck_dv 7))
def lE3 (a0 a1 a2 a3 a4 : Int32) (P : az_P) : Nat → ck_E := u1 (n_wi P 0 1 (n_wP a0 a1 a2 a3 a4) lE1) (wb3 P 1) (.inl (8, ck_dv 8))
def lE4 (a0 a1 a2 a3 a4 : Int32) (P : az_P) : Nat → ck_E := n_model (wb3 P 1) (wb3 P 1 + 1) (wit8 a0 1 8) (wit8 a1 1 16) (wit8 a2 1 15) (wit8 a3 4 400) (wit8 a4 1 20) (lE3 a0 a1 a2 a3 a4 P)
def jcLA (L : Nat) (xs : Nat → Int32) : gs_C ck_S := [(3, 7, 0, ck_new 600000 7302250 7), (1, 9, 2, lc_cell L xs), (2, 15, 6, ck_cf 600000 7302250 233 14210 zX7_init), (3, 18, 0, ck_new 600000 7302250 8), (2, 20, 6, ck_cf 600000 7302250 33 27235 zX8_init)]
set_option maxRecDepth 100000 in
theorem jL_A (L : Nat) (xs : Nat → Int32) (G : Nat → sw_L → List sw_V → ck_S → Prop) (hG : ∀ stop k pc L' st σ', gs_ws (jcLA L xs) jsL_law 695 jtL_law (fun _ _ => False) G stop k pc L' st σ' → G pc L' st σ') {a0 a1 a2 a3 a4 : Int32} (h0 : a0 = cellv L xs 0) (h1 : a1 = cellv L xs 1) (h2 : a2 = cellv L xs 2) (h3 : a3 = cellv L xs 3) (h4 : a4 = cellv L xs 4) {P : az_P} (hP : P = pw (n_wP a0 a1 a2 a3 a4))
    (hend : G 68 [some (.inr (some (1, 0))), some (rfv 0), some (rfv (wb3 P 1)), some (.inl 5)] [] (lE4 a0 a1 a2 a3 a4 P, wb3 P 1 + 34, 268, 41487)) : G 0 [some (.inr (some (1, 0))), none, none, none] [] (lE0, 0, 0, 0) := by
  obtain ⟨hok, hlim, hv, hz7, hz8⟩ := lim_ok hP
  refine hG (fun pc => Nat.beq pc 29) 40 0 _ _ _ (And.intro ⟨show 0 + 1 ≤ 600000 by omega, show 0 + 2 ≤ 7302250 by omega⟩ (And.intro ⟨rfl, by decide, show 1 ≤ 600000 by omega, show 2 ≤ 7302250 by omega⟩ (And.intro ⟨rfl, by decide, show 1 ≤ 600000 by omega, show 2 ≤ 7302250 by omega⟩ (And.intro ⟨rfl, by decide, show 1 ≤ 600000 by omega, show 2 ≤ 7302250 by omega⟩ (And.intro ⟨rfl, by decide, show 1 ≤ 600000 by omega, show 2 ≤ 7302250 by omega⟩ (And.intro ⟨rfl, by decide, show 1 ≤ 600000 by omega, show 2 ≤ 7302250 by omega⟩ ?_))))))
  show G 29 [some (.inr (some (1, 0))), none, none, none] [.inl (cellv L xs 4), .inl (cellv L xs 3), .inl (cellv L xs 2), .inl (cellv L xs 1), .inl (cellv L xs 0), rfv 0, rfv 0] (lE1, 1, 1, 2)
  rw [← h0, ← h1, ← h2, ← h3, ← h4]
  refine hG (fun pc => Nat.beq pc 33) 20 29 _ _ _ (And.intro ⟨⟨show 0 < 1 by omega, by show lE1 0 = _; exact u1_s _ _ _, by rw [← hP]; exact hok, by rw [← hP]; exact hlim, hz7⟩, show 1 + 233 ≤ 600000 by omega, show 2 + 14210 ≤ 7302250 by omega⟩ ?_)
  show G 33 [some (.inr (some (1, 0))), some (rfv 0), none, none] [] (n_wi (pw (n_wP a0 a1 a2 a3 a4)) 0 1 (n_wP a0 a1 a2 a3 a4) lE1, wb3 (pw (n_wP a0 a1 a2 a3 a4)) 1, 234, 14212)
  rw [← hP]
  refine hG (fun pc => Nat.beq pc 62) 40 33 _ _ _ (And.intro ⟨show 234 + 1 ≤ 600000 by omega, show 14212 + 40 ≤ 7302250 by omega⟩ (And.intro ⟨rfl, by decide, show 235 ≤ 600000 by omega, show 14252 ≤ 7302250 by omega⟩ (And.intro ⟨rfl, by decide, show 235 ≤ 600000 by omega, show 14252 ≤ 7302250 by omega⟩ (And.intro ⟨rfl, by decide, show 235 ≤ 600000 by omega, show 14252 ≤ 7302250 by omega⟩ (And.intro ⟨rfl, by decide, show 235 ≤ 600000 by omega, show 14252 ≤ 7302250 by omega⟩ (And.intro ⟨rfl, by decide, show 235 ≤ 600000 by omega, show 14252 ≤ 7302250 by omega⟩ ?_))))))
  show G 62 [some (.inr (some (1, 0))), some (rfv 0), none, none] [.inl (cellv L xs 4), .inl (cellv L xs 3), .inl (cellv L xs 2), .inl (cellv L xs 1), .inl (cellv L xs 0), rfv (wb3 P 1), rfv (wb3 P 1)] (lE3 a0 a1 a2 a3 a4 P, wb3 P 1 + 1, 235, 14252)
  rw [← h0, ← h1, ← h2, ← h3, ← h4]
  refine hG (fun pc => Nat.beq pc 68) 20 62 _ _ _ (And.intro ⟨⟨show wb3 P 1 < wb3 P 1 + 1 by omega, by show lE3 a0 a1 a2 a3 a4 P (wb3 P 1) = _; exact u1_s _ _ _, hz8⟩, show 235 + 33 ≤ 600000 by omega, show 14252 + 27235 ≤ 7302250 by omega⟩ ?_)
  exact hend
