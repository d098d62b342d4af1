/-! The law: what the tables say; its loop, whole; both worlds begin -/
theorem kn_in {c : Nat} (h : c < 9) : Cond.instantiable (sw_cl c).1 (sw_cl c).2.2 ∈ sw_tbl := sw_9 (P := fun c => Cond.instantiable (sw_cl c).1 (sw_cl c).2.2 ∈ sw_tbl) (by decide +kernel) (by decide +kernel) (by decide +kernel) (by decide +kernel) (by decide +kernel) (by decide +kernel) (by decide +kernel) (by decide +kernel) (by decide +kernel) h
theorem kn_ok {s : State} {args : Array Value} (hts : ∀ w ∈ lw_tbl, w.before args s = true) : ∃ (ca : Nat → ClassId) (D : va_G), va_K D vwCl (sw_ty ca) s := by
  have hK : ∀ c, ∃ (cC : ClassId) (iS : Nat → Nat), c < 9 → u_Kn s (sw_cl c).1 (sw_cl c).2.1 (sw_cl c).2.2 cC iS := fun c => by
    by_cases h : c < 9
    · obtain ⟨cC, iS, hk⟩ := u_known (C := (sw_cl c).1) (T := (sw_cl c).2.1) (N := (sw_cl c).2.2) (fun w hw => hts w (sw_tbl_lw hw)) (sw_cl_in h) (hts _ (sw_tbl_lw (kn_in h)))
      exact ⟨cC, iS, fun _ => hk⟩
    · obtain ⟨cC, iS, hk⟩ := u_known (C := (sw_cl 0).1) (T := (sw_cl 0).2.1) (N := (sw_cl 0).2.2) (fun w hw => hts w (sw_tbl_lw hw)) (sw_cl_in (show 0 < 9 by decide)) (hts _ (sw_tbl_lw (kn_in (show 0 < 9 by decide))))
      exact ⟨cC, iS, fun z => absurd z h⟩
  obtain ⟨cI, kI, pI, i1, i2, i3⟩ := Cond.arrayClass_spec (hts (.arrayClass .int) (by decide +kernel))
  obtain ⟨cZ, kZ, pZ, z1, z2, z3⟩ := Cond.arrayClass_spec (hts (.arrayClass .boolean) (by decide +kernel))
  obtain ⟨pF, cF, kF, f1, f2, f3, f4, f5⟩ := Cond.arrayOver_spec (hts (.arrayOver (.object "StreamWires$Flow")) (by decide +kernel))
  obtain ⟨pG, cG, kG, g1, g2, g3, g4, g5⟩ := Cond.arrayOver_spec (hts (.arrayOver (.object "StreamWires$Frame")) (by decide +kernel))
  refine ⟨fun t => if t = 0 then cI else if t = 1 then cZ else if t = 3 then cF else cG, (fun c => (hK c).choose, fun c => (hK c).choose_spec.choose), ?_, ?_⟩
  · intro c q hq
    have hc : c < 9 := (List.getElem?_eq_some_iff.mp hq).1
    rw [sw_cl_at hc] at hq
    cases hq
    exact (hK c).choose_spec.choose_spec hc
  · intro k q hq
    match k, hq with
    | 0, hq => cases hq; exact ⟨fun N z => ⟨(fun k h => by cases h), kI, i2, pI, i3⟩, i1⟩
    | 1, hq => cases hq; exact ⟨fun N z => ⟨(fun k h => by cases h), kZ, z2, pZ, z3⟩, z1⟩
    | 2, hq => cases hq; exact ⟨fun N z => ⟨(fun k h => by cases h), kF, f3, pF, f4⟩, kF, pF, f3, f4, f1, f5⟩
    | 3, hq => cases hq; exact ⟨fun N z => ⟨(fun k h => by cases h), kG, g3, pG, g4⟩, kG, pG, g3, g4, g1, g5⟩
    | k + 4, hq => simp [sw_ty] at hq
theorem ck_nw_ok {s : State} {args : Array Value} (hts : ∀ w ∈ lw_tbl, w.before args s = true) : ck_nw s := ⟨va_Nw.of rfl (hts (.methodLinkNest RX4 7 yX7_within RX7) (by decide +kernel)), va_AO.of (hts (.arrayOver (.object "StreamWires$Flow")) (by decide +kernel)), va_AO.of (hts (.arrayOver (.object "StreamWires$Frame")) (by decide +kernel))⟩
theorem sw_nw_ok {s : State} {args : Array Value} (hts : ∀ w ∈ lw_tbl, w.before args s = true) : sw_nw s := ⟨va_Nw.of rfl (hts (.methodLinkNest RX1 102 yX7_bit RX7) (by decide +kernel)), va_Nw.of rfl (hts (.methodLinkNest RX6 286 yX7_bit RX7) (by decide +kernel))⟩
theorem lw_lt {L i : Nat} (hL : L ≤ 2053) (hi : i < 2 ^ 31) : nI L - 4 < nI i ↔ L < i + 4 := by
  rcases Nat.lt_or_ge L 4 with h | h
  · have h0 : nI L - 4 < 0 := by
      rcases (by omega : L = 0 ∨ L = 1 ∨ L = 2 ∨ L = 3) with rfl | rfl | rfl | rfl <;> decide +kernel
    exact ⟨fun _ => by omega, fun _ => Int32.lt_of_lt_of_le h0 (nI_pos' hi)⟩
  · rw [show nI L - 4 = nI (L - 4) from nI_sub h, nI_ltI (by omega) hi]
    omega
section lwLoop2
variable {P : az_P} {L : Nat} {xs : Nat → Int32} {G : Nat → sw_L → List sw_V → lw_T → Prop}
set_option maxRecDepth 100000 in
theorem law_loop (hL : L ≤ 2053) (hG : lwG P L xs G) : ∀ (d i : Nat) (A : az), L < i + 4 + d → i ≤ 3000 → G 68 (lwS (nI i)) [] (A, A)
  | d, i, A, hd, hi => by
    refine hG (fun pc => Nat.beq pc 82) 20 68 _ _ _ (And.intro rfl (And.intro (fun _ => rfl) (fun z => ?_)))
    have z1 : ¬ nI L - 4 < nI i := z
    rw [lw_lt hL (by omega)] at z1
    refine And.intro (vp_in_nI (by omega) (by omega)) ?_
    show G 82 (lwS (nI i)) [.inl (xs (nI i).toNatClampNeg &&& 15)] (A, A)
    match d, hd with
    | 0, hd => omega
    | d + 1, hd =>
      have hn : ∀ A1, G 68 (lwS (nI i + 4)) [] (A1, A1) := fun A1 => by
        rw [show nI i + 4 = nI (i + 4) from nI_add i 4]
        exact law_loop hL hG d (i + 4) A1 (by omega) (by omega)
      have h1 : vp_in (nI i + 1) L := by
        rw [show nI i + 1 = nI (i + 1) from nI_add i 1]
        exact vp_in_nI (by omega) (by omega)
      have h2 : vp_in (nI i + 2) L := by
        rw [show nI i + 2 = nI (i + 2) from nI_add i 2]
        exact vp_in_nI (by omega) (by omega)
      have h3 : vp_in (nI i + 3) L := by
        rw [show nI i + 3 = nI (i + 3) from nI_add i 3]
        exact vp_in_nI (by omega) (by omega)
      have hdf : G 688 (lwS (nI i)) [] (A, A) := hG (fun pc => Nat.beq pc 68) 5 688 _ _ _ (hn A)
      refine hG (fun pc => Nat.ble 160 pc) 1 82 _ _ _ ?_
      exact And.intro (fun _ => lc_open hG h1 h2 h3 A hn) (fun _ => And.intro (fun _ => lc_send hG h1 h2 h3 A hn) (fun _ => And.intro (fun _ => lc_mark hG h1 h2 h3 A hn) (fun _ => And.intro (fun _ => lc_close hG h1 h2 h3 A hn) (fun _ => And.intro (fun _ => lc_receive hG h1 h2 h3 A hn) (fun _ => And.intro (fun _ => lc_word hG h1 h2 h3 A hn) (fun _ => And.intro (fun _ => lc_weight hG h1 h2 h3 A hn) (fun _ => And.intro (fun _ => lc_pump hG h1 h2 h3 A hn) (fun _ => And.intro (fun _ => lc_drain hG h1 h2 h3 A hn) (fun _ => And.intro (fun _ => lc_deliver hG h1 h2 h3 A hn) (fun _ => And.intro (fun _ => lc_lose hG h1 h2 h3 A hn) (fun _ => And.intro (fun _ => lc_corrupt hG h1 h2 h3 A hn) (fun _ => And.intro (fun _ => lc_timeout hG h1 h2 h3 A hn) (fun _ => And.intro (fun _ => lc_wire hG h1 h2 h3 A hn) (fun _ => And.intro (fun _ => lc_stream hG h1 h2 h3 A hn) (fun _ => And.intro (fun _ => lc_side hG h1 h2 h3 A hn) (fun _ => hdf))))))))))))))))
end lwLoop2
theorem n_model_lt {k n x : Nat} {v0 v1 v2 v3 v4 : Int32} {E : Nat → ck_E} (h1 : x < k) (h2 : x < n) : n_model k n v0 v1 v2 v3 v4 E x = E x := by
  unfold n_model n_mc
  rw [u1_n _ _ (by omega), u1_n _ _ (by omega), u1_n _ _ (by omega), n_ar_lt 33 (Or.inl h2)]
theorem law_sw {b0 : Nat} {ca : Nat → ClassId} {D : va_G} {a0 a1 a2 a3 a4 : Int32} {P : az_P} (hP : P = pw (n_wP a0 a1 a2 a3 a4)) {c z : Nat} {H : Heap} (hw : ck_W b0 ca D (lE4 a0 a1 a2 a3 a4 P, wb3 P 1 + 34, c, z) H) : lw_W b0 P ca D (A00, A00) H := by
  obtain ⟨hok, hlim, hv, -, -⟩ := lim_ok hP
  refine ⟨⟨st1 P, ?_, start_cr hok⟩, start_ai hok, ⟨st2 P, ?_, start_mr hok⟩, start_ai hok, st1 P, start_cr hok⟩
  · refine w1_at (E := lE1) (f := n_wP a0 a1 a2 a3 a4) hok hlim (fun x hx => ?_)
    have := hw.2 x (show x < wb3 P 1 + 34 by omega)
    have e : lE4 a0 a1 a2 a3 a4 P x = n_wi P 0 1 (n_wP a0 a1 a2 a3 a4) lE1 x := by
      unfold lE4 lE3
      rw [n_model_lt hx (by omega), u1_n _ _ (by omega)]
    rw [← e]
    exact this
  · exact w2_at (E := lE3 a0 a1 a2 a3 a4 P) hv (fun x h1 h2 => hw.2 x (show x < wb3 P 1 + 34 by omega))
theorem law_lh {sb b0 : Nat} {P : az_P} {lsA : Array Slot} (h : sw_lh (adA sb b0) 4 lsA [some (.inr (some (1, 0))), some (rfv 0), some (rfv (wb3 P 1)), some (.inl 5)]) : sw_lh (adB sb b0 P) 4 lsA (lwS 5) := by
  refine ⟨h.1, h.2.1, rfl, fun i v hi => ?_⟩
  match i, hi with
  | 0, hi => cases hi; exact h.2.2.2 0 _ rfl
  | 1, hi => cases hi; exact h.2.2.2 1 _ rfl
  | 2, hi => cases hi; exact h.2.2.2 2 _ rfl
  | 3, hi => cases hi; exact h.2.2.2 3 _ rfl
  | i + 4, hi => cases hi
