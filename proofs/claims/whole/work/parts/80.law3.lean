/-! The law: from its entry to its loop -/
theorem lc_blind {b0 sb L : Nat} {xs : Nat → Int32} {ca : Nat → ClassId} {D : va_G} {As : List Value} {σ : ck_2} : FrameBlind (va_Pc As (lc_Pw b0 sb L xs ca D σ)) := fun a U g mk q => by
  obtain ⟨q0, q1, q2, q3⟩ := q
  exact ⟨q0, q1, va_X.moved (u := U) (U := U.calling g mk a) (Vm.Alike.refl U.vm) q2, q3⟩
section lawA
variable {p : Program} {l : Launch} {e : Env} {s : State} {m : MethodId} {args : Array Value} {below : List Frame} {meth : Method} {c : Code} {ca : Nat → ClassId} {D : va_G} {Qw : State → Prop} {b0 sb L : Nat} {xs : Nat → Int32}
theorem lc_cell_ok (S : CallFix p m c code 4 s args sw_tbl RL) (hL : L ≤ 2053) (hX : va_X sb L xs s s.heap) (hb0 : b0 = s.heap.size) (hsb : sb < b0) : gs_cok (ck_W b0 ca D) ck_cz ck_sz (ck_A b0) p l e room_1 s m args below meth c (adA sb b0) ck_V code 4 Qw (1, 9, 2, lc_cell L xs) := by
  intro pc H locs lsA avs rest σ hdg hlen hva hwσ hS hf h8 hsz kk
  obtain ⟨k, rfl, hk, hc, hs⟩ : ∃ k, avs = [.inr (some (1, 0)), .inl k] ∧ ¬ k < 0 ∧ σ.2.2.1 ≤ 600000 ∧ σ.2.2.2 ≤ 7302250 := by
    have hf : (lc_cell L xs avs σ).1 := hf
    unfold lc_cell at hf
    split at hf
    · obtain ⟨rfl, h2⟩ := hf
      exact ⟨_, rfl, h2⟩
    · exact hf.elim
  have hbl : sb < s.heap.size := by omega
  have hbA : ¬ ck_A b0 sb := Nat.not_le.mpr hsb
  have hX1 : va_X sb L xs s H := hX.kept (hS.2.1 sb hbl hbA)
  have hrun := va_runS (e := e) (below := below) (meth := meth) (R := room_1) (locs := locs) (cells := ck_cz σ) (slots := ck_sz σ) (As := [.ref sb, .int k]) (rest := rest) (g := F0 m pc lsA ((([.inr (some (1, 0)), .inl k] : List sw_V).map (sw_em (adA sb b0))).reverse ++ rest)) (n := 2) S (qL_cell (l := l) (b0 := b0) (sb := sb) (L := L) (xs := xs) (ca := ca) (D := D) hL (σ.1, σ.2.1) k hk)
    ⟨callB_of 2 S.2.2.2.2 (sw_good_cons (by decide +kernel)) rfl rfl rfl (S.2.2.2.2 (.initialized yL_cell.cls) (by decide +kernel)) (S.2.2.2.2 (.methodLink RL 9 yL_cell) (by decide +kernel)) ⟨by decide, by decide, by decide +kernel⟩ ⟨by decide, by decide⟩, S.2.2.2.2 (.static yL_cell) (by decide +kernel)⟩
    ⟨lc_blind, fun U hU hW => ⟨rfl, by rw [hU]; exact hwσ, va_X.moved hW.alike (by rw [hU]; exact hX1), hsb⟩⟩ rfl rfl hsz rfl (lv_room h8) hdg ⟨hc, hs⟩
  exact ck_call hrun hS (fun H1 locs1 h1 h2 => kk H1 locs1 h1 h2 (fun v _ => ck_ov v))
theorem jcLA_ok (S : CallFix p m c code 4 s args sw_tbl RL) (hT : va_K D vwCl (sw_ty ca) s) (hnw : ck_nw s) (hL : L ≤ 2053) (hX : va_X sb L xs s s.heap) (hb0 : b0 = s.heap.size) (hsb : sb < b0) : ∀ q ∈ jcLA L xs, gs_cok (ck_W b0 ca D) ck_cz ck_sz (ck_A b0) p l e room_1 s m args below meth c (adA sb b0) ck_V code 4 Qw q := by
  have e0 : ∀ (avs : List sw_V) (v : sw_V), avs.length = 0 → v ∈ avs → sw_em (ck_ad b0) v = sw_em (adA sb b0) v := fun avs v h hv => by
    rw [List.length_eq_zero_iff.mp h] at hv
    cases hv
  have e5 : ∀ (k : Nat) (a0 a1 a2 a3 a4 : Int32) (v : sw_V), v ∈ ([.inr (some (0, k)), .inl a0, .inl a1, .inl a2, .inl a3, .inl a4] : List sw_V) → sw_em (ck_ad b0) v = sw_em (adA sb b0) v := fun k a0 a1 a2 a3 a4 v hv => by
    simp only [List.mem_cons, List.not_mem_nil, or_false] at hv
    rcases hv with rfl | rfl | rfl | rfl | rfl | rfl <;> rfl
  refine List.forall_mem_cons.mpr ⟨gs_cok_ad (ck_new_ok (R := room_1) S.1 S.2.1 S.2.2.2.2 S.2.2.2.1 hT (by decide) (by decide +kernel) (by decide +kernel) (by decide +kernel)) (fun avs σ hl hf => ⟨fun v hv => e0 avs v hl hv, fun v hv => by cases hv; rfl⟩), ?_⟩
  refine List.forall_mem_cons.mpr ⟨lc_cell_ok S hL hX hb0 hsb, ?_⟩
  refine List.forall_mem_cons.mpr ⟨gs_cok_ad (ck_callI (R := room_1) S hT hnw (rm' := { frames := 4, cells := 233, slots := 14210, locals := 88 }) qX7_init 15 (fun avs σ h => zX7_init_ob h) ⟨by decide +kernel, by decide +kernel, by decide +kernel, by decide +kernel⟩ ⟨by decide, by decide, by decide +kernel⟩ rfl ⟨by decide, by decide⟩) (fun avs σ hl hf => ?_), ?_⟩
  · obtain ⟨k, a0, a1, a2, a3, a4, rfl⟩ := zX7_init_of (And.left hf)
    exact ⟨e5 k a0 a1 a2 a3 a4, fun v hv => by cases hv⟩
  refine List.forall_mem_cons.mpr ⟨gs_cok_ad (ck_new_ok (R := room_1) S.1 S.2.1 S.2.2.2.2 S.2.2.2.1 hT (by decide) (by decide +kernel) (by decide +kernel) (by decide +kernel)) (fun avs σ hl hf => ⟨fun v hv => e0 avs v hl hv, fun v hv => by cases hv; rfl⟩), ?_⟩
  refine List.forall_mem_cons.mpr ⟨gs_cok_ad (ck_callI (R := room_1) S hT hnw (rm' := { frames := 1, cells := 33, slots := 27235, locals := 22 }) qX8_init 20 (fun avs σ h => zX8_init_ob h) ⟨by decide +kernel, by decide +kernel, by decide +kernel, by decide +kernel⟩ ⟨by decide, by decide, by decide +kernel⟩ rfl ⟨by decide, by decide⟩) (fun avs σ hl hf => ?_), ?_⟩
  · obtain ⟨k, a0, a1, a2, a3, a4, rfl⟩ := zX8_init_of (And.left hf)
    exact ⟨e5 k a0 a1 a2 a3 a4, fun v hv => by cases hv⟩
  exact fun q h => absurd h List.not_mem_nil
theorem law_A (S : CallFix p m c code 4 s args sw_tbl RL) (hT : va_K D vwCl (sw_ty ca) s) (hnw : ck_nw s) (hL : L ≤ 2053) (hX : va_X sb L xs s s.heap) (hb0 : b0 = s.heap.size) (hsb : sb < b0) {a0 a1 a2 a3 a4 : Int32} (h0 : a0 = cellv L xs 0) (h1 : a1 = cellv L xs 1) (h2 : a2 = cellv L xs 2) (h3 : a3 = cellv L xs 3) (h4 : a4 = cellv L xs 4) {P : az_P} (hP : P = pw (n_wP a0 a1 a2 a3 a4))
    (hB : ∀ (H : Heap) (locs : List Loc) (lsA : Array Slot), ck_W b0 ca D (lE4 a0 a1 a2 a3 a4 P, wb3 P 1 + 34, 268, 41487) H → va_S (ck_A b0) s.heap H locs → sw_lh (adA sb b0) 4 lsA [some (.inr (some (1, 0))), some (rfv 0), some (rfv (wb3 P 1)), some (.inl 5)] → W p l e room_1 s m args below meth c H locs 268 41487 Qw (F0 m 68 lsA []))
    {ls : Array Slot} (hl : sw_lh (adA sb b0) 4 ls [some (.inr (some (1, 0))), none, none, none]) : W p l e room_1 s m args below meth c s.heap [] 0 0 Qw (F0 m 0 ls []) := by
  have hct := jcLA_ok (l := l) (e := e) (below := below) (meth := meth) (Qw := Qw) S hT hnw hL hX hb0 hsb
  have h := jL_A L xs (gs_at (ck_W b0 ca D) ck_cz ck_sz (ck_A b0) p l e room_1 s m args below meth c (adA sb b0) ck_V 4 Qw) (fun stop k pc L' st σ' h => gs_run (stop := stop) (cn := []) S.1 S.2.1 S.2.2.2.1 S.2.2.2.2 (fun q h => absurd h List.not_mem_nil) hct (fun _ _ _ _ _ _ _ _ _ h => h.elim) jkL_law (fun _ _ _ _ h => h) k pc L' st σ' h) h0 h1 h2 h3 h4 hP (fun H locs lsA hw hS hl _ _ => hB H locs lsA hw hS hl)
  exact h s.heap [] ls ⟨by rw [hb0]; rfl, fun i hi => absurd hi (Nat.not_lt_zero i)⟩ va_S.rf hl (fun _ v _ => ck_ov v) (fun v hv => by cases hv)
end lawA
