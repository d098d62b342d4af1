/-! The law, from its entry -/
set_option maxHeartbeats 4000000 in
set_option maxRecDepth 100000 in
theorem whole_start {p : Program} {e : Env} {s : State} {m : MethodId} {below : List Frame} {meth : Method} {c : Code} (l : Launch) {b L : Nat} {xs : Nat → Int32} (hL : L ≤ 2053) (C0 : lw_At p s m meth c b L xs) : W p l e room_1 s m #[Value.ref b] below meth c s.heap [] 0 0 (lw_Z below #[Value.ref b] s) (entryFrame m ([Value.ref b] : List Value).toArray 4) := by
  obtain ⟨hx, hb, hr, hml, hown, hts, hX, hbl, hlocks, hgv⟩ := C0
  obtain ⟨ca, D, hT⟩ := kn_ok hts
  have hck := ck_nw_ok hts
  have hnw := sw_nw_ok hts
  have S : CallFix p m c code 4 s #[Value.ref b] sw_tbl RL := ⟨hx, hb, hml, hown, fun w h => hts w (sw_tbl_lw h)⟩
  obtain ⟨a0, h0⟩ : ∃ a, a = cellv L xs 0 := ⟨_, rfl⟩
  obtain ⟨a1, h1⟩ : ∃ a, a = cellv L xs 1 := ⟨_, rfl⟩
  obtain ⟨a2, h2⟩ : ∃ a, a = cellv L xs 2 := ⟨_, rfl⟩
  obtain ⟨a3, h3⟩ : ∃ a, a = cellv L xs 3 := ⟨_, rfl⟩
  obtain ⟨a4, h4⟩ : ∃ a, a = cellv L xs 4 := ⟨_, rfl⟩
  obtain ⟨P, hP⟩ : ∃ P, P = pw (n_wP a0 a1 a2 a3 a4) := ⟨_, rfl⟩
  have hok := (lim_ok hP).1
  have hl := lv_entry ([.ref b] : List Value) (n := 4) (Nat.le_of_ble_eq_true rfl)
  rw [lg_entry_eq]
  generalize (lg_sl ([.ref b] : List Value) ++ List.replicate (4 - (lg_sl ([.ref b] : List Value)).length) Slot.unset).toArray = ls at hl ⊢
  have hR : ∀ (r : Option sw_V) (ins : Instr) (pc : Nat) (H : Heap) (locs : List Loc) (lsA : Array Slot) (τ : lw_T), ((r = none ∧ ins = .return_) ∨ (∃ x : Int32, r = some (.inl x) ∧ ins = .ireturn)) → decode code pc = .ok (ins, 1) → r = some (.inl 1) → lw_W s.heap.size P ca D τ H → va_S (ck_A s.heap.size) s.heap H locs → W p l e room_1 s m #[Value.ref b] below meth c H locs 268 41487 (lw_Z below #[Value.ref b] s) (F0 m pc lsA ((r.toList).map (sw_em (adB b s.heap.size P)))) := by
    intro r ins pc H locs lsA τ hri hd hq hwq hSq
    subst hq
    rcases hri with ⟨h, -⟩ | ⟨x, h, rfl⟩
    · cases h
    · cases h
      refine va_forget (fun q hq => hSq.2.2 q hq) ?_
      refine W.widen (k := 600000) (n := 7302250) (by omega) (by omega) ?_
      exact lw_ret hx hb hr hlocks hd
  have hct := jcLB_ok (l := l) (e := e) (below := below) (meth := meth) (Qw := lw_Z below #[Value.ref b] s) hok S hT hnw hX rfl hbl
  have hloop := law_loop (P := P) (xs := xs) (G := gs_at (lw_W s.heap.size P ca D) (fun _ => 268) (fun _ => 41487) (ck_A s.heap.size) p l e room_1 s m #[Value.ref b] below meth c (adB b s.heap.size P) ck_V 4 (lw_Z below #[Value.ref b] s)) hL (fun stop k pc L' st τ h => gs_run (stop := stop) (cn := []) hx hb hown S.2.2.2.2 (fun q h => absurd h List.not_mem_nil) hct hR jkL_law (fun _ _ _ _ h => h) k pc L' st τ h) L 5 A00 (by omega) (by omega)
  refine law_A (b0 := s.heap.size) (sb := b) S hT hck hL hX rfl hbl h0 h1 h2 h3 h4 hP (fun H locs lsA hw hS hl => ?_) (ls := ls) ⟨hl.1, hl.2.1, rfl, fun i v hi => ?_⟩
  · exact hloop H locs lsA (law_sw hP hw) hS (law_lh hl) (fun _ v _ => ck_ov v) (fun v hv => by cases hv)
  · match i, hi with
    | 0, hi => cases hi; exact hl.2.2 (0, .ref b) (by simp [lv_args])
    | 1, hi => cases hi
    | 2, hi => cases hi
    | 3, hi => cases hi
    | i + 4, hi => cases hi
