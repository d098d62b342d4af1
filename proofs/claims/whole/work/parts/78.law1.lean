/-! The law: its script, its cell; what it makes -/
section scRows
variable {τ : Type} {Wd : τ → Heap → Prop} {cz sz : τ → Nat} {A : Nat → Prop} {p : Program} {l : Launch} {e : Env} {R : Room} {s : State} {m : MethodId} {args : Array Value} {below : List Frame} {meth : Method} {c : Code} {ad : sw_A} {cc : ByteArray} {nL : Nat} {Qw : State → Prop}
def sc_len {τ : Type} (L : Nat) : gs_F τ := fun avs σ => (avs = [.inr (some (1, 0))], some (.inl (nI L)), σ)
def sc_ld {τ : Type} (L : Nat) (xs : Nat → Int32) : gs_F τ := fun avs σ => match avs with
  | [.inr (some (1, 0)), .inl i] => (vp_in i L, some (.inl (xs i.toNatClampNeg)), σ)
  | _ => (False, none, σ)
theorem sc_len_ok (hx : p.tables.exec = Jvm.exec) (hb : c.code = cc) {L : Nat} {xs : Nat → Int32} (hX : va_X (ad 1 0) L xs s s.heap) (hbl : ad 1 0 < s.heap.size) (hbA : ¬ A (ad 1 0)) : gs_cok Wd cz sz A p l e R s m args below meth c ad ck_V cc nL Qw (11, 0, 1, sc_len L) := by
  intro pc H locs lsA avs rest σ hd hlen hva hw hS hf h8 hsz kk
  have hf : avs = [.inr (some (1, 0))] := hf
  subst hf
  exact va_slen hx hb hX hbl hbA hS hd (kk H locs hw hS (fun v hv => ck_ov v))
theorem sc_ld_ok (hx : p.tables.exec = Jvm.exec) (hb : c.code = cc) {L : Nat} {xs : Nat → Int32} (hX : va_X (ad 1 0) L xs s s.heap) (hbl : ad 1 0 < s.heap.size) (hbA : ¬ A (ad 1 0)) : gs_cok Wd cz sz A p l e R s m args below meth c ad ck_V cc nL Qw (8, 0, 2, sc_ld L xs) := by
  intro pc H locs lsA avs rest σ hd hlen hva hw hS hf h8 hsz kk
  obtain ⟨i, rfl⟩ : ∃ i, avs = [.inr (some (1, 0)), .inl i] := by
    match avs, hf, hlen with
    | [.inr (some (1, 0)), .inl i], _, _ => exact ⟨i, rfl⟩
    | [.inr (some (1, 0)), .inr _], h, _ => exact h.elim
    | [.inr (some (1, 0))], h, _ => exact h.elim
    | .inr (some (1, 0)) :: _ :: _ :: _, _, h => cases h
    | [], h, _ => exact h.elim
    | .inl _ :: _, h, _ => exact h.elim
    | .inr none :: _, h, _ => exact h.elim
    | .inr (some (0, _)) :: _, h, _ => exact h.elim
    | .inr (some (_ + 2, _)) :: _, h, _ => exact h.elim
    | .inr (some (1, _ + 1)) :: _, h, _ => exact h.elim
  exact va_sld hx hb hX hbl hbA hS hf hd (kk H locs hw hS (fun v hv => ck_ov v))
end scRows
/-! cell -/
def cellv (L : Nat) (xs : Nat → Int32) (k : Int32) : Int32 := if nI L ≤ k then 0 else xs k.toNatClampNeg
def adA (sb b0 : Nat) : sw_A := fun c k => match c with
  | 1 => sb
  | _ => b0 + k
def lc_Pw (b0 sb L : Nat) (xs : Nat → Int32) (ca : Nat → ClassId) (D : va_G) (σ : ck_2) (U : State) : Prop := ck_W b0 ca D (σ.1, σ.2, 0, 0) U.heap ∧ va_X sb L xs U U.heap ∧ sb < b0
def lc_ct (L : Nat) (xs : Nat → Int32) : gs_C Unit := [(11, 0, 1, sc_len L), (8, 0, 2, sc_ld L xs)]
set_option maxRecDepth 100000 in
theorem qL_cell {l : Launch} {b0 sb L : Nat} {xs : Nat → Int32} {ca : Nat → ClassId} {D : va_G} (hL : L ≤ 2053) (σ : ck_2) (k : Int32) (hk : ¬ k < 0) : Met l yL_cell (Cond.code yL_cell cL_cell 2 (some .int) :: sw_tbl) { frames := 0, cells := 0, slots := 0, locals := 0 } (va_Pc [.ref sb, .int k] (lc_Pw b0 sb L xs ca D σ)) (ck_Qc b0 ca D (some (.inl (cellv L xs k))) σ) 0 0 (ck_A b0) := by
  refine Met.ofW (cc := cL_cell) (maxL := 2) (ret := some .int) (by decide) rfl ?_
  intro p e s m args below meth c s₁ B hml hv
  obtain ⟨rfl, hw, hX, hsb⟩ := hv
  have hx := B.exec
  have hb := B.bytes
  have hr := B.returns
  have hts0 := atoms_spec (ws := Cond.code yL_cell cL_cell 2 (some .int) :: sw_tbl) B.pre
  have hts : ∀ w ∈ sw_tbl, w.before ([.ref sb, .int k] : List Value).toArray s = true := fun w h => hts0 w (List.mem_cons_of_mem _ h)
  have hown : s.vm.findClass yL_cell.cls = some m.cls := findClass_of_methodNamed B.named
  have hlocks := B.notSynchronized
  have hS : va_S (ck_A b0) s.heap s.heap [] := va_S.rf
  have hsz := hw.1
  have hbl : sb < s.heap.size := by omega
  have hbA : ¬ ck_A b0 sb := Nat.not_le.mpr hsb
  have hR : ∀ (r : Option sw_V) (ins : Instr) (pc : Nat) (H : Heap) (locs : List Loc) (lsA : Array Slot) (σ' : Unit), ((r = none ∧ ins = .return_) ∨ (∃ x : Int32, r = some (.inl x) ∧ ins = .ireturn)) → decode cL_cell pc = .ok (ins, 1) → (r = some (.inl (cellv L xs k))) → ck_W b0 ca D (σ.1, σ.2, 0, 0) H → va_S (ck_A b0) s.heap H locs → W p l e { frames := 0, cells := 0, slots := 0, locals := 0 } s m ([.ref sb, .int k] : List Value).toArray below meth c H locs 0 0 (MQ below (ck_Qc b0 ca D (some (.inl (cellv L xs k))) σ) ([.ref sb, .int k] : List Value).toArray s 0 0 (ck_A b0)) (F0 m pc lsA ((r.toList).map (sw_em (adA sb b0)))) := by
    intro r ins pc H locs lsA σ' hri hd hq hwq hSq
    subst hq
    rcases hri with ⟨h, -⟩ | ⟨x, h, rfl⟩
    · cases h
    · cases h
      exact W.zret hx hb hr rfl (fun t ht hW => ⟨rfl, by rw [ht]; exact hwq, hSq.F ht⟩) hSq.2.2 hd
  have hl := lv_entry ([.ref sb, .int k] : List Value) (n := 2) (Nat.le_of_ble_eq_true rfl)
  rw [lg_entry_eq]
  generalize (lg_sl ([.ref sb, .int k] : List Value) ++ List.replicate (2 - (lg_sl ([.ref sb, .int k] : List Value)).length) Slot.unset).toArray = ls at hl ⊢
  have hct : ∀ q ∈ lc_ct L xs, gs_cok (fun (_ : Unit) H => ck_W b0 ca D (σ.1, σ.2, 0, 0) H) (fun _ => 0) (fun _ => 0) (ck_A b0) p l e { frames := 0, cells := 0, slots := 0, locals := 0 } s m ([.ref sb, .int k] : List Value).toArray below meth c (adA sb b0) ck_V cL_cell 2 (MQ below (ck_Qc b0 ca D (some (.inl (cellv L xs k))) σ) ([.ref sb, .int k] : List Value).toArray s 0 0 (ck_A b0)) q := by
    refine List.forall_mem_cons.mpr ⟨sc_len_ok (xs := xs) hx hb hX hbl hbA, ?_⟩
    refine List.forall_mem_cons.mpr ⟨sc_ld_ok hx hb hX hbl hbA, ?_⟩
    exact fun q h => absurd h List.not_mem_nil
  obtain ⟨j, hj, rfl⟩ := nI_of hk
  have hrun := gs_run (stop := fun _ => false) (cn := []) hx hb hown hts (fun q h => absurd h List.not_mem_nil) hct hR jkL_cell (G := fun _ _ _ _ => False) (fun _ _ _ _ h => h.elim) 20 0 [some (.inr (some (1, 0))), some (.inl (nI j))] [] () (by
    refine And.intro rfl (And.intro (fun (z : nI L ≤ nI j) => ?_) (fun (z : ¬ nI L ≤ nI j) => And.intro ?_ ?_))
    · show some (Sum.inl 0) = some (Sum.inl (cellv L xs (nI j)))
      unfold cellv
      rw [if_pos z]
    · rw [nI_leI (by omega) hj] at z
      exact vp_in_nI (by omega) (by omega)
    · show some (Sum.inl (xs (nI j).toNatClampNeg)) = some (Sum.inl (cellv L xs (nI j)))
      unfold cellv
      rw [if_neg z])
  refine hrun s.heap [] ls hw hS ⟨hl.1, hl.2.1, rfl, fun i v hi => ?_⟩ (fun i v hi => ck_ov v) (fun v hv => by cases hv)
  match i, hi with
  | 0, hi => cases hi; exact hl.2.2 (0, .ref sb) (by simp [lv_args])
  | 1, hi => cases hi; exact hl.2.2 (1, .int (nI j)) (by simp [lv_args, Value.category])
  | i + 2, hi => cases hi
