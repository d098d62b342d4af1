/-! The general machine: any state, any world; the heap and the calls are sites -/
abbrev gs_F (τ : Type) : Type := List sw_V → τ → Prop × (Option sw_V × τ)
abbrev gs_C (τ : Type) : Type := List (Nat × Nat × Nat × gs_F τ)
def gs_lk {τ : Type} : gs_C τ → Nat → Nat → Option (Nat × gs_F τ)
  | [], _, _ => none
  | q :: l, b, i => bif Nat.beq q.1 b && Nat.beq q.2.1 i then some q.2.2 else gs_lk l b i
theorem gs_lk_in {τ : Type} : ∀ {CT : gs_C τ} {b i : Nat} {q : Nat × gs_F τ}, gs_lk CT b i = some q → (b, i, q) ∈ CT
  | [], _, _, _, h => by cases h
  | x :: l, b, i, q, h => by
    unfold gs_lk at h
    by_cases hb : (Nat.beq x.1 b && Nat.beq x.2.1 i) = true
    · rw [hb, cond_true] at h
      rw [Bool.and_eq_true] at hb
      have h1 := Nat.eq_of_beq_eq_true hb.1
      have h2 := Nat.eq_of_beq_eq_true hb.2
      have h3 := Option.some.inj h
      rw [← h1, ← h2, ← h3]
      exact List.mem_cons_self
    · rw [Bool.not_eq_true] at hb
      rw [hb, cond_false] at h
      exact List.mem_cons_of_mem _ (gs_lk_in h)
/-- one instruction: (which, a, b, the next pc, a number) -/
def gs_st {τ : Type} (CT : gs_C τ) (TS : List (Int32 × Nat)) (Q : Option sw_V → τ → Prop) (K : Nat → sw_L → List sw_V → τ → Prop) (i : sw_I) (ls : sw_L) (st : List sw_V) (σ : τ) : Prop :=
  match i with
  | (0, _, _, nx, v) => K nx ls (.inl v :: st) σ
  | (1, a, _, nx, _) => match sw_get ls a with
    | some (.inl x) => K nx ls (.inl x :: st) σ
    | _ => False
  | (2, a, _, nx, _) => match sw_get ls a with
    | some (.inr r) => K nx ls (.inr r :: st) σ
    | _ => False
  | (3, a, _, nx, _) => match st with
    | .inl x :: st' => bif Nat.blt a ls.length then K nx (sw_set ls a (.inl x)) st' σ else False
    | _ => False
  | (4, a, _, nx, _) => match st with
    | .inr r :: st' => bif Nat.blt a ls.length then K nx (sw_set ls a (.inr r)) st' σ else False
    | _ => False
  | (5, a, _, nx, v) => match sw_get ls a with
    | some (.inl x) => K nx (sw_set ls a (.inl (x + v))) st σ
    | _ => False
  | (6, a, _, nx, _) => match st with
    | .inl y :: .inl x :: st' => K nx ls (.inl (sw_ar a x y) :: st') σ
    | _ => False
  | (12, a, b, nx, _) => match st with
    | .inl x :: st' => sw_br a x 0 (K b ls st' σ) (K nx ls st' σ)
    | _ => False
  | (13, a, b, nx, _) => match st with
    | .inl y :: .inl x :: st' => sw_br a x y (K b ls st' σ) (K nx ls st' σ)
    | _ => False
  | (14, _, b, nx, _) => match st with
    | .inr none :: st' => K b ls st' σ
    | .inr (some _) :: st' => K nx ls st' σ
    | _ => False
  | (15, _, b, nx, _) => match st with
    | .inr none :: st' => K nx ls st' σ
    | .inr (some _) :: st' => K b ls st' σ
    | _ => False
  | (16, _, b, _, _) => K b ls st σ
  | (17, a, _, _, _) => match st with
    | .inl x :: st' => sw_sw x a (fun t => K t ls st' σ) TS
    | _ => False
  | (19, _, _, _, _) => match st with
    | [.inl x] => Q (some (.inl x)) σ
    | _ => False
  | (21, _, _, _, _) => match st with
    | [] => Q none σ
    | _ => False
  | (22, _, _, nx, _) => match st with
    | x :: st' => K nx ls (x :: x :: st') σ
    | _ => False
  | (23, _, _, nx, _) => match st with
    | x :: y :: st' => K nx ls (x :: y :: x :: y :: st') σ
    | _ => False
  | (24, _, _, nx, _) => match st with
    | _ :: st' => K nx ls st' σ
    | _ => False
  | (25, _, _, nx, _) => K nx ls (.inr none :: st) σ
  | (26, _, _, nx, _) => match st with
    | .inl y :: .inl x :: st' => ¬ y = 0 ∧ K nx ls (.inl (x / y) :: st') σ
    | _ => False
  | (27, _, _, nx, _) => match st with
    | .inl y :: .inl x :: st' => ¬ y = 0 ∧ K nx ls (.inl (sw_rem x y) :: st') σ
    | _ => False
  | (30, idx, b, nx, _) => match gs_lk CT b idx with
    | some q => (match sw_tk q.1 st [] with
      | some r => bif Nat.ble r.2.length 8 then ((q.2 r.1 σ).1 ∧ K nx ls ((q.2 r.1 σ).2.1.toList ++ r.2) (q.2 r.1 σ).2.2) else False
      | none => False)
    | none => False
  | _ => False
def gs_in (b idx : Nat) : Instr × Nat := match b with
  | 0 => (.invokevirtual idx, 3)
  | 1 => (.invokestatic idx, 3)
  | 2 => (.invokespecial idx, 3)
  | 3 => (.new idx, 3)
  | 4 => (.newarray .int, 2)
  | 5 => (.anewarray idx, 3)
  | 6 => (.getfield idx, 3)
  | 7 => (.putfield idx, 3)
  | 8 => (.iaload, 1)
  | 9 => (.iastore, 1)
  | 10 => (.aastore, 1)
  | 11 => (.arraylength, 1)
  | _ => (.newarray .boolean, 2)
def gs_ec (cn : List (Nat × Int32)) (TS : List (Int32 × Nat)) (pc n : Nat) : Instr → sw_I
  | .iconst z => sw_ln n 1 (0, 0, 0, pc + 1, Int32.ofInt z)
  | .bipush z => sw_ln n 2 (0, 0, 0, pc + 2, (Int8.ofInt z).toInt32)
  | .sipush z => sw_ln n 3 (0, 0, 0, pc + 3, (Int16.ofInt z).toInt32)
  | .ldc idx => sw_ln n 2 (sw_o (sw_cn cn idx) (fun v => (0, 0, 0, pc + 2, v)))
  | .iload i => sw_ln n 2 (1, i, 0, pc + 2, 0)
  | .iload_n i => sw_ln n 1 (1, i.val, 0, pc + 1, 0)
  | .aload i => sw_ln n 2 (2, i, 0, pc + 2, 0)
  | .aload_n i => sw_ln n 1 (2, i.val, 0, pc + 1, 0)
  | .istore i => sw_ln n 2 (3, i, 0, pc + 2, 0)
  | .istore_n i => sw_ln n 1 (3, i.val, 0, pc + 1, 0)
  | .astore i => sw_ln n 2 (4, i, 0, pc + 2, 0)
  | .astore_n i => sw_ln n 1 (4, i.val, 0, pc + 1, 0)
  | .iinc i z => sw_ln n 3 (5, i, 0, pc + 3, Int32.ofInt z)
  | .iadd => sw_ln n 1 (6, 0, 0, pc + 1, 0)
  | .isub => sw_ln n 1 (6, 1, 0, pc + 1, 0)
  | .imul => sw_ln n 1 (6, 2, 0, pc + 1, 0)
  | .iand => sw_ln n 1 (6, 3, 0, pc + 1, 0)
  | .ior => sw_ln n 1 (6, 4, 0, pc + 1, 0)
  | .ixor => sw_ln n 1 (6, 5, 0, pc + 1, 0)
  | .ishl => sw_ln n 1 (6, 6, 0, pc + 1, 0)
  | .ishr => sw_ln n 1 (6, 7, 0, pc + 1, 0)
  | .iushr => sw_ln n 1 (6, 8, 0, pc + 1, 0)
  | .idiv => sw_ln n 1 (26, 0, 0, pc + 1, 0)
  | .irem => sw_ln n 1 (27, 0, 0, pc + 1, 0)
  | .ifCond cd off => sw_ln n 3 (sw_tg pc off (fun t => (12, sw_cc cd, t, pc + 3, 0)))
  | .if_icmp cd off => sw_ln n 3 (sw_tg pc off (fun t => (13, sw_cc cd, t, pc + 3, 0)))
  | .ifnull off => sw_ln n 3 (sw_tg pc off (fun t => (14, 0, t, pc + 3, 0)))
  | .ifnonnull off => sw_ln n 3 (sw_tg pc off (fun t => (15, 0, t, pc + 3, 0)))
  | .goto off => sw_ln n 3 (sw_tg pc off (fun t => (16, 0, t, 0, 0)))
  | .tableswitch d lo hi offs => bif sw_tsk pc lo hi offs.toList TS then sw_tg pc d (fun t => (17, t, 0, 0, 0)) else sw_bad
  | .ireturn => sw_ln n 1 (19, 0, 0, 0, 0)
  | .return_ => sw_ln n 1 (21, 0, 0, 0, 0)
  | .dup => sw_ln n 1 (22, 0, 0, pc + 1, 0)
  | .dup2 => sw_ln n 1 (23, 0, 0, pc + 1, 0)
  | .pop => sw_ln n 1 (24, 0, 0, pc + 1, 0)
  | .aconst_null => sw_ln n 1 (25, 0, 0, pc + 1, 0)
  | .invokevirtual idx => sw_ln n 3 (30, idx, 0, pc + 3, 0)
  | .invokestatic idx => sw_ln n 3 (30, idx, 1, pc + 3, 0)
  | .invokespecial idx => sw_ln n 3 (30, idx, 2, pc + 3, 0)
  | .new idx => sw_ln n 3 (30, idx, 3, pc + 3, 0)
  | .newarray .int => sw_ln n 2 (30, 0, 4, pc + 2, 0)
  | .newarray .boolean => sw_ln n 2 (30, 0, 12, pc + 2, 0)
  | .anewarray idx => sw_ln n 3 (30, idx, 5, pc + 3, 0)
  | .getfield idx => sw_ln n 3 (30, idx, 6, pc + 3, 0)
  | .putfield idx => sw_ln n 3 (30, idx, 7, pc + 3, 0)
  | .iaload => sw_ln n 1 (30, 0, 8, pc + 1, 0)
  | .iastore => sw_ln n 1 (30, 0, 9, pc + 1, 0)
  | .aastore => sw_ln n 1 (30, 0, 10, pc + 1, 0)
  | .arraylength => sw_ln n 1 (30, 0, 11, pc + 1, 0)
  | _ => sw_bad
section gsStep
variable {τ : Type} {CT : gs_C τ} {TS : List (Int32 × Nat)} {Qr : Option sw_V → τ → Prop} {K : Nat → sw_L → List sw_V → τ → Prop} {L : sw_L} {st : List sw_V} {σ : τ}
theorem gs_ln_st {n k : Nat} {i : sw_I} (h : gs_st CT TS Qr K (sw_ln n k i) L st σ) : n = k ∧ gs_st CT TS Qr K i L st σ := by
  unfold sw_ln at h
  by_cases hb : Nat.beq n k = true
  · rw [hb, cond_true] at h
    exact ⟨Nat.eq_of_beq_eq_true hb, h⟩
  · rw [Bool.not_eq_true] at hb
    rw [hb, cond_false] at h
    exact False.elim h
theorem gs_tg_st {pc : Nat} {off : Int} {f : Nat → sw_I} (h : gs_st CT TS Qr K (sw_tg pc off f) L st σ) : ∃ t : Nat, (pc : Int) + off = (t : Int) ∧ gs_st CT TS Qr K (f t) L st σ := by
  unfold sw_tg at h
  by_cases hb : 0 ≤ (pc : Int) + off
  · rw [if_pos hb] at h
    exact ⟨_, (Int.toNat_of_nonneg hb).symm, h⟩
  · rw [if_neg hb] at h
    exact False.elim h
theorem gs_if_st {b : Bool} {i : sw_I} (h : gs_st CT TS Qr K (bif b then i else sw_bad) L st σ) : b = true ∧ gs_st CT TS Qr K i L st σ := by
  cases b with
  | true => exact ⟨rfl, h⟩
  | false => exact False.elim h
theorem gs_op_st {α : Type} {o : Option α} {f : α → sw_I} (h : gs_st CT TS Qr K (sw_o o f) L st σ) : ∃ q, o = some q ∧ gs_st CT TS Qr K (f q) L st σ := by
  cases o with
  | none => exact False.elim h
  | some q => exact ⟨q, rfl, h⟩
end gsStep
/-- the machine stands at a point, in a world: it comes to the end -/
def gs_at {τ : Type} (Wd : τ → Heap → Prop) (cz sz : τ → Nat) (A : Nat → Prop) (p : Program) (l : Launch) (e : Env) (R : Room) (s : State) (m : MethodId) (args : Array Value) (below : List Frame) (meth : Method) (c : Code) (ad : sw_A) (V : Nat → Nat → Prop) (nL : Nat) (Qw : State → Prop) (pc : Nat) (L : sw_L) (st : List sw_V) (σ : τ) : Prop :=
  ∀ (H : Heap) (locs : List Loc) (lsA : Array Slot), Wd σ H → va_S A s.heap H locs → sw_lh ad nL lsA L → (∀ (i : Nat) (v : sw_V), sw_get L i = some v → sw_ov V v) → (∀ v ∈ st, sw_ov V v) →
    W p l e R s m args below meth c H locs (cz σ) (sz σ) Qw (F0 m pc lsA (st.map (sw_em ad)))
/-- a site: what stands on the stack is taken, an answer may come -/
def gs_cok {τ : Type} (Wd : τ → Heap → Prop) (cz sz : τ → Nat) (A : Nat → Prop) (p : Program) (l : Launch) (e : Env) (R : Room) (s : State) (m : MethodId) (args : Array Value) (below : List Frame) (meth : Method) (c : Code) (ad : sw_A) (V : Nat → Nat → Prop) (cc : ByteArray) (nL : Nat) (Qw : State → Prop) (q : Nat × Nat × Nat × gs_F τ) : Prop :=
  ∀ (pc : Nat) (H : Heap) (locs : List Loc) (lsA : Array Slot) (avs : List sw_V) (rest : List Value) (σ : τ),
    decode cc pc = .ok (gs_in q.1 q.2.1) → avs.length = q.2.2.1 → (∀ v ∈ avs, sw_ov V v) → Wd σ H → va_S A s.heap H locs → (q.2.2.2 avs σ).1 → (rest.map fun v => v.category).sum ≤ 8 → lsA.size = nL →
    (∀ (H1 : Heap) (locs1 : List Loc), Wd (q.2.2.2 avs σ).2.2 H1 → va_S A s.heap H1 locs1 → (∀ v, (q.2.2.2 avs σ).2.1 = some v → sw_ov V v) → W p l e R s m args below meth c H1 locs1 (cz (q.2.2.2 avs σ).2.2) (sz (q.2.2.2 avs σ).2.2) Qw (F0 m (pc + (gs_in q.1 q.2.1).2) lsA (((q.2.2.2 avs σ).2.1.toList).map (sw_em ad) ++ rest))) →
    W p l e R s m args below meth c H locs (cz σ) (sz σ) Qw (F0 m pc lsA ((avs.map (sw_em ad)).reverse ++ rest))
section gsStep2
variable {τ : Type} {Wd : τ → Heap → Prop} {cz sz : τ → Nat} {A : Nat → Prop} {p : Program} {l : Launch} {e : Env} {R : Room} {s : State} {m : MethodId} {args : Array Value} {below : List Frame} {meth : Method} {c : Code} {ad : sw_A} {V : Nat → Nat → Prop} {nL : Nat} {Qw : State → Prop}
variable {CT : gs_C τ} {TS : List (Int32 × Nat)} {Qr : Option sw_V → τ → Prop} {K : Nat → sw_L → List sw_V → τ → Prop} {L : sw_L} {st : List sw_V} {σ : τ} {cc : ByteArray} {cn : List (Nat × Int32)} {own : String}
theorem gs_site {pc : Nat} (hct : ∀ q ∈ CT, gs_cok Wd cz sz A p l e R s m args below meth c ad V cc nL Qw q) {b idx n : Nat} (hd : decode cc pc = .ok ((gs_in b idx).1, n)) (h : gs_st CT TS Qr K (30, idx, b, pc + n, 0) L st σ) (hk : ∀ pc' L' st' σ', K pc' L' st' σ' → gs_at Wd cz sz A p l e R s m args below meth c ad V nL Qw pc' L' st' σ')
    (H : Heap) (locs : List Loc) (lsA : Array Slot) (hw : Wd σ H) (hS : va_S A s.heap H locs) (hL : sw_lh ad nL lsA L) (hLo : ∀ (i : Nat) (v : sw_V), sw_get L i = some v → sw_ov V v) (hst : ∀ v ∈ st, sw_ov V v) (hn : (gs_in b idx).2 = n := by rfl) :
    W p l e R s m args below meth c H locs (cz σ) (sz σ) Qw (F0 m pc lsA (st.map (sw_em ad))) := by
  subst hn
  replace h : (match gs_lk CT b idx with
    | some q => (match sw_tk q.1 st [] with
      | some r => bif Nat.ble r.2.length 8 then ((q.2 r.1 σ).1 ∧ K (pc + (gs_in b idx).2) L ((q.2 r.1 σ).2.1.toList ++ r.2) (q.2 r.1 σ).2.2) else False
      | none => False)
    | none => False) := h
  cases hq : gs_lk CT b idx with
  | none => rw [hq] at h; exact h.elim
  | some q =>
    obtain ⟨n, f⟩ := q
    rw [hq] at h
    replace h : (match sw_tk n st [] with
      | some r => bif Nat.ble r.2.length 8 then ((f r.1 σ).1 ∧ K (pc + (gs_in b idx).2) L ((f r.1 σ).2.1.toList ++ r.2) (f r.1 σ).2.2) else False
      | none => False) := h
    cases htk : sw_tk n st [] with
    | none => rw [htk] at h; exact h.elim
    | some q2 =>
      obtain ⟨avs, st'⟩ := q2
      rw [htk] at h
      obtain ⟨h8, hf, h9⟩ := sw_bif h
      clear h
      obtain ⟨-, hlen, pre, e1, e2⟩ := sw_tk_of htk
      rw [List.append_nil] at e2
      have e3 : pre = avs.reverse := by rw [e2, List.reverse_reverse]
      subst e1
      have hva : ∀ v ∈ avs, sw_ov V v := fun v hv => hst v (List.mem_append_left _ (by rw [e3]; exact List.mem_reverse.mpr hv))
      have hvr : ∀ v ∈ st', sw_ov V v := fun v hv => hst v (List.mem_append_right _ hv)
      have hc := hct _ (gs_lk_in hq) pc H locs lsA avs (st'.map (sw_em ad)) σ hd hlen hva hw hS hf (by rw [sw_cats]; exact Nat.le_of_ble_eq_true h8) hL.1 (fun H1 locs1 hw1 hS1 hv1 => by
        have := hk _ _ _ _ h9 H1 locs1 lsA hw1 hS1 hL hLo (fun v hv => by
          rcases List.mem_append.mp hv with z | z
          · exact hv1 v (by simpa using z)
          · exact hvr v z)
        rw [List.map_append] at this
        exact this)
      rw [List.map_append, e3, List.map_reverse]
      exact hc
set_option maxHeartbeats 4000000 in
theorem gs_step {pc n : Nat} {ins : Instr} (hx : p.tables.exec = Jvm.exec) (hb : c.code = cc) (hown : s.vm.findClass own = some m.cls) (hts : ∀ w ∈ sw_tbl, w.before args s = true)
    (hcn : ∀ q ∈ cn, Jvm.Cond.constant own q.1 q.2 ∈ sw_tbl) (hct : ∀ q ∈ CT, gs_cok Wd cz sz A p l e R s m args below meth c ad V cc nL Qw q)
    (hR : ∀ (r : Option sw_V) (ins : Instr) (pc : Nat) (H : Heap) (locs : List Loc) (lsA : Array Slot) (σ : τ), ((r = none ∧ ins = .return_) ∨ (∃ x : Int32, r = some (.inl x) ∧ ins = .ireturn)) → decode cc pc = .ok (ins, 1) → Qr r σ → Wd σ H → va_S A s.heap H locs → W p l e R s m args below meth c H locs (cz σ) (sz σ) Qw (F0 m pc lsA ((r.toList).map (sw_em ad))))
    (hd : decode cc pc = .ok (ins, n)) (h : gs_st CT TS Qr K (gs_ec cn TS pc n ins) L st σ) (hk : ∀ pc' L' st' σ', K pc' L' st' σ' → gs_at Wd cz sz A p l e R s m args below meth c ad V nL Qw pc' L' st' σ') :
    gs_at Wd cz sz A p l e R s m args below meth c ad V nL Qw pc L st σ := by
  intro H locs lsA hw hS hL hLo hst
  cases ins
  case iconst z =>
    obtain ⟨hn, h0⟩ := gs_ln_st h
    clear h
    subst hn
    have h := h0
    clear h0
    exact lv_iconst hx hb hd rfl (hk _ _ _ _ h H locs lsA hw hS hL hLo (sw_oc trivial hst))
  case bipush z =>
    obtain ⟨hn, h0⟩ := gs_ln_st h
    clear h
    subst hn
    have h := h0
    clear h0
    exact lv_bipush hx hb hd rfl (hk _ _ _ _ h H locs lsA hw hS hL hLo (sw_oc trivial hst))
  case sipush z =>
    obtain ⟨hn, h0⟩ := gs_ln_st h
    clear h
    subst hn
    have h := h0
    clear h0
    exact lv_sipush hx hb hd rfl (hk _ _ _ _ h H locs lsA hw hS hL hLo (sw_oc trivial hst))
  case ldc idx =>
    obtain ⟨hn, h0⟩ := gs_ln_st h
    clear h
    subst hn
    have h := h0
    clear h0
    obtain ⟨v, hv, h⟩ := gs_op_st h
    exact lv_ldc hx hb hown (hts _ (hcn _ (sw_cn_in hv))) hd (hk _ _ _ _ h H locs lsA hw hS hL hLo (sw_oc trivial hst))
  case iload i =>
    obtain ⟨hn, h0⟩ := gs_ln_st h
    clear h
    subst hn
    have h := h0
    clear h0
    replace h : (match sw_get L i with
      | some (.inl x) => K (pc + 2) L (.inl x :: st) σ
      | _ => False) := h
    cases hg : sw_get L i with
    | none => rw [hg] at h; exact h.elim
    | some v =>
      rw [hg] at h
      rcases v with x | r
      · exact lv_iload hx hb hd (hL.2.2.2 i _ hg) (hk _ _ _ _ h H locs lsA hw hS hL hLo (sw_oc trivial hst))
      · exact h.elim
  case iload_n i =>
    obtain ⟨hn, h0⟩ := gs_ln_st h
    clear h
    subst hn
    have h := h0
    clear h0
    replace h : (match sw_get L i.val with
      | some (.inl x) => K (pc + 1) L (.inl x :: st) σ
      | _ => False) := h
    cases hg : sw_get L i.val with
    | none => rw [hg] at h; exact h.elim
    | some v =>
      rw [hg] at h
      rcases v with x | r
      · exact lv_iload_n hx hb hd rfl (hL.2.2.2 i.val _ hg) (hk _ _ _ _ h H locs lsA hw hS hL hLo (sw_oc trivial hst))
      · exact h.elim
  case aload i =>
    obtain ⟨hn, h0⟩ := gs_ln_st h
    clear h
    subst hn
    have h := h0
    clear h0
    replace h : (match sw_get L i with
      | some (.inr r) => K (pc + 2) L (.inr r :: st) σ
      | _ => False) := h
    cases hg : sw_get L i with
    | none => rw [hg] at h; exact h.elim
    | some v =>
      rw [hg] at h
      rcases v with x | _ | r
      · exact h.elim
      · exact lv_aloadN hx hb hd (hL.2.2.2 i _ hg) (hk _ _ _ _ h H locs lsA hw hS hL hLo (sw_oc (hLo i _ hg) hst))
      · exact lv_aload hx hb hd (hL.2.2.2 i _ hg) (hk _ _ _ _ h H locs lsA hw hS hL hLo (sw_oc (hLo i _ hg) hst))
  case aload_n i =>
    obtain ⟨hn, h0⟩ := gs_ln_st h
    clear h
    subst hn
    have h := h0
    clear h0
    replace h : (match sw_get L i.val with
      | some (.inr r) => K (pc + 1) L (.inr r :: st) σ
      | _ => False) := h
    cases hg : sw_get L i.val with
    | none => rw [hg] at h; exact h.elim
    | some v =>
      rw [hg] at h
      rcases v with x | _ | r
      · exact h.elim
      · exact lv_aload_nN hx hb hd rfl (hL.2.2.2 i.val _ hg) (hk _ _ _ _ h H locs lsA hw hS hL hLo (sw_oc (hLo i.val _ hg) hst))
      · exact lv_aload_n hx hb hd rfl (hL.2.2.2 i.val _ hg) (hk _ _ _ _ h H locs lsA hw hS hL hLo (sw_oc (hLo i.val _ hg) hst))
  case istore i =>
    obtain ⟨hn, h0⟩ := gs_ln_st h
    clear h
    subst hn
    have h := h0
    clear h0
    rcases st with _ | ⟨x | r, st⟩
    · exact False.elim h
    · obtain ⟨hi, h⟩ := sw_bif h
      have hi : i < nL := by rw [← hL.2.2.1]; exact Nat.le_of_ble_eq_true hi
      exact lv_istore hx hb hd hL.has hi rfl (fun ls' h' => hk _ _ _ _ h H locs ls' hw hS (hL.set (v := .inl x) hi h') (sw_os trivial hLo) (sw_ot hst))
    · exact False.elim h
  case istore_n i =>
    obtain ⟨hn, h0⟩ := gs_ln_st h
    clear h
    subst hn
    have h := h0
    clear h0
    rcases st with _ | ⟨x | r, st⟩
    · exact False.elim h
    · obtain ⟨hi, h⟩ := sw_bif h
      have hi : i.val < nL := by rw [← hL.2.2.1]; exact Nat.le_of_ble_eq_true hi
      exact lv_istore_n hx hb hd rfl hL.has hi rfl (fun ls' h' => hk _ _ _ _ h H locs ls' hw hS (hL.set (v := .inl x) hi h') (sw_os trivial hLo) (sw_ot hst))
    · exact False.elim h
  case astore i =>
    obtain ⟨hn, h0⟩ := gs_ln_st h
    clear h
    subst hn
    have h := h0
    clear h0
    rcases st with _ | ⟨x | _ | r, st⟩
    · exact False.elim h
    · exact False.elim h
    · obtain ⟨hi, h⟩ := sw_bif h
      have hi : i < nL := by rw [← hL.2.2.1]; exact Nat.le_of_ble_eq_true hi
      exact lv_astoreN hx hb hd hL.has hi rfl (fun ls' h' => hk _ _ _ _ h H locs ls' hw hS (hL.set (v := .inr none) hi h') (sw_os trivial hLo) (sw_ot hst))
    · obtain ⟨hi, h⟩ := sw_bif h
      have hi : i < nL := by rw [← hL.2.2.1]; exact Nat.le_of_ble_eq_true hi
      exact lv_astore hx hb hd hL.has hi rfl (fun ls' h' => hk _ _ _ _ h H locs ls' hw hS (hL.set (v := .inr (some r)) hi h') (sw_os (sw_oh hst) hLo) (sw_ot hst))
  case astore_n i =>
    obtain ⟨hn, h0⟩ := gs_ln_st h
    clear h
    subst hn
    have h := h0
    clear h0
    rcases st with _ | ⟨x | _ | r, st⟩
    · exact False.elim h
    · exact False.elim h
    · obtain ⟨hi, h⟩ := sw_bif h
      have hi : i.val < nL := by rw [← hL.2.2.1]; exact Nat.le_of_ble_eq_true hi
      exact lv_astore_nN hx hb hd rfl hL.has hi rfl (fun ls' h' => hk _ _ _ _ h H locs ls' hw hS (hL.set (v := .inr none) hi h') (sw_os trivial hLo) (sw_ot hst))
    · obtain ⟨hi, h⟩ := sw_bif h
      have hi : i.val < nL := by rw [← hL.2.2.1]; exact Nat.le_of_ble_eq_true hi
      exact lv_astore_n hx hb hd rfl hL.has hi rfl (fun ls' h' => hk _ _ _ _ h H locs ls' hw hS (hL.set (v := .inr (some r)) hi h') (sw_os (sw_oh hst) hLo) (sw_ot hst))
  case iinc i z =>
    obtain ⟨hn, h0⟩ := gs_ln_st h
    clear h
    subst hn
    have h := h0
    clear h0
    replace h : (match sw_get L i with
      | some (.inl x) => K (pc + 3) (sw_set L i (.inl (x + Int32.ofInt z))) st σ
      | _ => False) := h
    cases hg : sw_get L i with
    | none => rw [hg] at h; exact h.elim
    | some v =>
      rw [hg] at h
      rcases v with x | r
      · have hi : i < nL := by rw [← hL.2.2.1]; exact sw_get_lt hg
        obtain ⟨q, hq⟩ := List.getElem?_of_mem (sw_lp_in ad L 0 i _ hg)
        rw [Nat.zero_add] at hq
        exact lv_iinc hx hb hd hL.has hq rfl hi rfl (fun ls' h' => hk _ _ _ _ h H locs ls' hw hS (hL.set (v := .inl (x + Int32.ofInt z)) hi h') (sw_os trivial hLo) hst)
      · exact h.elim
  case iadd =>
    obtain ⟨hn, h0⟩ := gs_ln_st h
    clear h
    subst hn
    have h := h0
    clear h0
    rcases st with _ | ⟨y | r, _ | ⟨x | r', st⟩⟩
    · exact False.elim h
    · exact False.elim h
    · exact lv_iadd hx hb hd (hk _ _ _ _ h H locs lsA hw hS hL hLo (sw_oc trivial (sw_ot (sw_ot hst))))
    · exact False.elim h
    · exact False.elim h
    · exact False.elim h
    · exact False.elim h
  case isub =>
    obtain ⟨hn, h0⟩ := gs_ln_st h
    clear h
    subst hn
    have h := h0
    clear h0
    rcases st with _ | ⟨y | r, _ | ⟨x | r', st⟩⟩
    · exact False.elim h
    · exact False.elim h
    · exact lv_isub hx hb hd (hk _ _ _ _ h H locs lsA hw hS hL hLo (sw_oc trivial (sw_ot (sw_ot hst))))
    · exact False.elim h
    · exact False.elim h
    · exact False.elim h
    · exact False.elim h
  case imul =>
    obtain ⟨hn, h0⟩ := gs_ln_st h
    clear h
    subst hn
    have h := h0
    clear h0
    rcases st with _ | ⟨y | r, _ | ⟨x | r', st⟩⟩
    · exact False.elim h
    · exact False.elim h
    · exact lv_imul hx hb hd (hk _ _ _ _ h H locs lsA hw hS hL hLo (sw_oc trivial (sw_ot (sw_ot hst))))
    · exact False.elim h
    · exact False.elim h
    · exact False.elim h
    · exact False.elim h
  case iand =>
    obtain ⟨hn, h0⟩ := gs_ln_st h
    clear h
    subst hn
    have h := h0
    clear h0
    rcases st with _ | ⟨y | r, _ | ⟨x | r', st⟩⟩
    · exact False.elim h
    · exact False.elim h
    · exact lv_iand hx hb hd (hk _ _ _ _ h H locs lsA hw hS hL hLo (sw_oc trivial (sw_ot (sw_ot hst))))
    · exact False.elim h
    · exact False.elim h
    · exact False.elim h
    · exact False.elim h
  case ior =>
    obtain ⟨hn, h0⟩ := gs_ln_st h
    clear h
    subst hn
    have h := h0
    clear h0
    rcases st with _ | ⟨y | r, _ | ⟨x | r', st⟩⟩
    · exact False.elim h
    · exact False.elim h
    · exact lv_ior hx hb hd (hk _ _ _ _ h H locs lsA hw hS hL hLo (sw_oc trivial (sw_ot (sw_ot hst))))
    · exact False.elim h
    · exact False.elim h
    · exact False.elim h
    · exact False.elim h
  case ixor =>
    obtain ⟨hn, h0⟩ := gs_ln_st h
    clear h
    subst hn
    have h := h0
    clear h0
    rcases st with _ | ⟨y | r, _ | ⟨x | r', st⟩⟩
    · exact False.elim h
    · exact False.elim h
    · exact lv_ixor hx hb hd (hk _ _ _ _ h H locs lsA hw hS hL hLo (sw_oc trivial (sw_ot (sw_ot hst))))
    · exact False.elim h
    · exact False.elim h
    · exact False.elim h
    · exact False.elim h
  case ishl =>
    obtain ⟨hn, h0⟩ := gs_ln_st h
    clear h
    subst hn
    have h := h0
    clear h0
    rcases st with _ | ⟨y | r, _ | ⟨x | r', st⟩⟩
    · exact False.elim h
    · exact False.elim h
    · exact lv_ishl hx hb hd (hk _ _ _ _ h H locs lsA hw hS hL hLo (sw_oc trivial (sw_ot (sw_ot hst))))
    · exact False.elim h
    · exact False.elim h
    · exact False.elim h
    · exact False.elim h
  case ishr =>
    obtain ⟨hn, h0⟩ := gs_ln_st h
    clear h
    subst hn
    have h := h0
    clear h0
    rcases st with _ | ⟨y | r, _ | ⟨x | r', st⟩⟩
    · exact False.elim h
    · exact False.elim h
    · exact lv_ishr hx hb hd (hk _ _ _ _ h H locs lsA hw hS hL hLo (sw_oc trivial (sw_ot (sw_ot hst))))
    · exact False.elim h
    · exact False.elim h
    · exact False.elim h
    · exact False.elim h
  case iushr =>
    obtain ⟨hn, h0⟩ := gs_ln_st h
    clear h
    subst hn
    have h := h0
    clear h0
    rcases st with _ | ⟨y | r, _ | ⟨x | r', st⟩⟩
    · exact False.elim h
    · exact False.elim h
    · exact lv_iushr hx hb hd rfl (hk _ _ _ _ h H locs lsA hw hS hL hLo (sw_oc trivial (sw_ot (sw_ot hst))))
    · exact False.elim h
    · exact False.elim h
    · exact False.elim h
    · exact False.elim h
  case idiv =>
    obtain ⟨hn, h0⟩ := gs_ln_st h
    clear h
    subst hn
    have h := h0
    clear h0
    rcases st with _ | ⟨y | r, _ | ⟨x | r', st⟩⟩
    · exact False.elim h
    · exact False.elim h
    · exact lv_idiv hx hb hd h.1 (hk _ _ _ _ h.2 H locs lsA hw hS hL hLo (sw_oc trivial (sw_ot (sw_ot hst))))
    · exact False.elim h
    · exact False.elim h
    · exact False.elim h
    · exact False.elim h
  case irem =>
    obtain ⟨hn, h0⟩ := gs_ln_st h
    clear h
    subst hn
    have h := h0
    clear h0
    rcases st with _ | ⟨y | r, _ | ⟨x | r', st⟩⟩
    · exact False.elim h
    · exact False.elim h
    · exact lv_irem hx hb hd h.1 (hk _ _ _ _ h.2 H locs lsA hw hS hL hLo (sw_oc trivial (sw_ot (sw_ot hst))))
    · exact False.elim h
    · exact False.elim h
    · exact False.elim h
    · exact False.elim h
  case ifCond cd off =>
    obtain ⟨hn, h0⟩ := gs_ln_st h
    clear h
    subst hn
    have h := h0
    clear h0
    obtain ⟨t, ht, h⟩ := gs_tg_st h
    rcases st with _ | ⟨x | r, st⟩
    · exact False.elim h
    · cases cd
      · exact lv_if_eq hx hb hd ht (fun z => hk _ _ _ _ (h.1 z) H locs lsA hw hS hL hLo (sw_ot hst)) (fun z => hk _ _ _ _ (h.2 z) H locs lsA hw hS hL hLo (sw_ot hst))
      · exact lv_if_ne hx hb hd ht (fun z => hk _ _ _ _ (h.1 z) H locs lsA hw hS hL hLo (sw_ot hst)) (fun z => hk _ _ _ _ (h.2 z) H locs lsA hw hS hL hLo (sw_ot hst))
      · exact lv_if_lt hx hb hd ht (fun z => hk _ _ _ _ (h.1 z) H locs lsA hw hS hL hLo (sw_ot hst)) (fun z => hk _ _ _ _ (h.2 z) H locs lsA hw hS hL hLo (sw_ot hst))
      · exact lv_if_ge hx hb hd ht (fun z => hk _ _ _ _ (h.1 z) H locs lsA hw hS hL hLo (sw_ot hst)) (fun z => hk _ _ _ _ (h.2 z) H locs lsA hw hS hL hLo (sw_ot hst))
      · exact lv_if_gt hx hb hd ht (fun z => hk _ _ _ _ (h.1 z) H locs lsA hw hS hL hLo (sw_ot hst)) (fun z => hk _ _ _ _ (h.2 z) H locs lsA hw hS hL hLo (sw_ot hst))
      · exact lv_if_le hx hb hd ht (fun z => hk _ _ _ _ (h.1 z) H locs lsA hw hS hL hLo (sw_ot hst)) (fun z => hk _ _ _ _ (h.2 z) H locs lsA hw hS hL hLo (sw_ot hst))
    · exact False.elim h
  case if_icmp cd off =>
    obtain ⟨hn, h0⟩ := gs_ln_st h
    clear h
    subst hn
    have h := h0
    clear h0
    obtain ⟨t, ht, h⟩ := gs_tg_st h
    rcases st with _ | ⟨y | r, _ | ⟨x | r', st⟩⟩
    · exact False.elim h
    · exact False.elim h
    · cases cd
      · exact lv_icmp_eq hx hb hd ht (fun z => hk _ _ _ _ (h.1 z) H locs lsA hw hS hL hLo (sw_ot (sw_ot hst))) (fun z => hk _ _ _ _ (h.2 z) H locs lsA hw hS hL hLo (sw_ot (sw_ot hst)))
      · exact lv_icmp_ne hx hb hd ht (fun z => hk _ _ _ _ (h.1 z) H locs lsA hw hS hL hLo (sw_ot (sw_ot hst))) (fun z => hk _ _ _ _ (h.2 z) H locs lsA hw hS hL hLo (sw_ot (sw_ot hst)))
      · exact lv_icmp_lt hx hb hd ht (fun z => hk _ _ _ _ (h.1 z) H locs lsA hw hS hL hLo (sw_ot (sw_ot hst))) (fun z => hk _ _ _ _ (h.2 z) H locs lsA hw hS hL hLo (sw_ot (sw_ot hst)))
      · exact lv_icmp_ge hx hb hd ht (fun z => hk _ _ _ _ (h.1 z) H locs lsA hw hS hL hLo (sw_ot (sw_ot hst))) (fun z => hk _ _ _ _ (h.2 z) H locs lsA hw hS hL hLo (sw_ot (sw_ot hst)))
      · exact lv_icmp_gt hx hb hd ht (fun z => hk _ _ _ _ (h.1 z) H locs lsA hw hS hL hLo (sw_ot (sw_ot hst))) (fun z => hk _ _ _ _ (h.2 z) H locs lsA hw hS hL hLo (sw_ot (sw_ot hst)))
      · exact lv_icmp_le hx hb hd ht (fun z => hk _ _ _ _ (h.1 z) H locs lsA hw hS hL hLo (sw_ot (sw_ot hst))) (fun z => hk _ _ _ _ (h.2 z) H locs lsA hw hS hL hLo (sw_ot (sw_ot hst)))
    all_goals exact False.elim h
  case ifnull off =>
    obtain ⟨hn, h0⟩ := gs_ln_st h
    clear h
    subst hn
    have h := h0
    clear h0
    obtain ⟨t, ht, h⟩ := gs_tg_st h
    rcases st with _ | ⟨x | _ | q, st⟩
    · exact False.elim h
    · exact False.elim h
    · exact lv_ifnullN hx hb hd ht (hk _ _ _ _ h H locs lsA hw hS hL hLo (sw_ot hst))
    · exact lv_ifnull hx hb hd (hk _ _ _ _ h H locs lsA hw hS hL hLo (sw_ot hst))
  case ifnonnull off =>
    obtain ⟨hn, h0⟩ := gs_ln_st h
    clear h
    subst hn
    have h := h0
    clear h0
    obtain ⟨t, ht, h⟩ := gs_tg_st h
    rcases st with _ | ⟨x | _ | q, st⟩
    · exact False.elim h
    · exact False.elim h
    · exact lv_ifnonnullN hx hb hd (hk _ _ _ _ h H locs lsA hw hS hL hLo (sw_ot hst))
    · exact lv_ifnonnull hx hb hd ht (hk _ _ _ _ h H locs lsA hw hS hL hLo (sw_ot hst))
  case goto off =>
    obtain ⟨hn, h0⟩ := gs_ln_st h
    clear h
    subst hn
    have h := h0
    clear h0
    obtain ⟨t, ht, h⟩ := gs_tg_st h
    exact lv_goto hx hb hd ht (hk _ _ _ _ h H locs lsA hw hS hL hLo hst)
  case tableswitch d lo hi offs =>
    obtain ⟨hc, h⟩ := gs_if_st h
    obtain ⟨t, ht, h⟩ := gs_tg_st h
    rcases st with _ | ⟨x | r, st⟩
    · exact False.elim h
    · replace h : sw_sw x t (fun t => K t L st σ) TS := h
      simp only [sw_tsk, Bool.and_eq_true, decide_eq_true_eq] at hc
      obtain ⟨⟨⟨c1, c2⟩, c3⟩, c4⟩ := hc
      have key : ∀ (i : Nat) (q : Int32 × Nat), TS[i]? = some q → q.1.toInt = lo + (i : Int) := by
        intro i q hq
        have e1 : (TS.map (fun q => q.1.toInt))[i]? = some q.1.toInt := by rw [List.getElem?_map, hq]; rfl
        rw [c3, List.getElem?_map] at e1
        have hi : i < offs.toList.length := by rw [← c1]; exact (List.getElem?_eq_some_iff.mp hq).1
        rw [List.getElem?_range hi] at e1
        exact (Option.some.inj e1).symm
      by_cases hr1 : x.toInt < lo ∨ hi < x.toInt
      · refine lv_tableOut hx hb hd hr1 ht (hk _ _ _ _ (sw_sw_no h fun j q' hq' z => ?_) H locs lsA hw hS hL hLo (sw_ot hst))
        have hj := key j q' hq'
        have hlt : j < offs.toList.length := by rw [← c1]; exact (List.getElem?_eq_some_iff.mp hq').1
        rw [z] at hj
        omega
      · have h1 : ¬ x.toInt < lo := fun z => hr1 (Or.inl z)
        have h2 : ¬ hi < x.toInt := fun z => hr1 (Or.inr z)
        have hi : (x.toInt - lo).toNat < offs.toList.length := by omega
        have hi2 : (x.toInt - lo).toNat < TS.length := by rw [c1]; exact hi
        obtain ⟨q, hq⟩ : ∃ q, TS[(x.toInt - lo).toNat]? = some q := ⟨_, List.getElem?_eq_getElem hi2⟩
        obtain ⟨o, ho⟩ : ∃ o, offs.toList[(x.toInt - lo).toNat]? = some o := ⟨_, List.getElem?_eq_getElem hi⟩
        have e1 : (offs.toList.map (fun o => (pc : Int) + o))[(x.toInt - lo).toNat]? = some ((pc : Int) + o) := by rw [List.getElem?_map, ho]; rfl
        rw [c4, List.getElem?_map, hq] at e1
        have e2 : (pc : Int) + o = (q.2 : Int) := (Option.some.inj e1).symm
        have hqx : q.1 = x := Int32.toInt_inj.mp (by rw [key _ q hq]; omega)
        refine lv_tableIn hx hb hd h1 h2 (by rw [← Array.getElem?_toList]; exact ho) e2 (hk _ _ _ _ (sw_sw_at h _ q hq hqx fun j q' hj hq' z => ?_) H locs lsA hw hS hL hLo (sw_ot hst))
        have := key j q' hq'
        rw [z] at this
        omega
    · exact False.elim h
  case dup =>
    obtain ⟨hn, h0⟩ := gs_ln_st h
    clear h
    subst hn
    have h := h0
    clear h0
    rcases st with _ | ⟨x, st⟩
    · exact False.elim h
    · exact lv_dup hx hb hd (sw_em_cat ad x) (hk _ _ _ _ h H locs lsA hw hS hL hLo (sw_oc (sw_oh hst) hst))
  case dup2 =>
    obtain ⟨hn, h0⟩ := gs_ln_st h
    clear h
    subst hn
    have h := h0
    clear h0
    rcases st with _ | ⟨x, _ | ⟨y, st⟩⟩
    · exact False.elim h
    · exact False.elim h
    · exact lv_dup2_11 hx hb hd (sw_em_cat ad x) (sw_em_cat ad y) (hk _ _ _ _ h H locs lsA hw hS hL hLo (sw_oc (sw_oh hst) (sw_oc (sw_oh (sw_ot hst)) hst)))
  case pop =>
    obtain ⟨hn, h0⟩ := gs_ln_st h
    clear h
    subst hn
    have h := h0
    clear h0
    rcases st with _ | ⟨x, st⟩
    · exact False.elim h
    · exact lv_pop hx hb hd (sw_em_cat ad x) (hk _ _ _ _ h H locs lsA hw hS hL hLo (sw_ot hst))
  case aconst_null =>
    obtain ⟨hn, h0⟩ := gs_ln_st h
    clear h
    subst hn
    have h := h0
    clear h0
    exact lv_null hx hb hd (hk _ _ _ _ h H locs lsA hw hS hL hLo (sw_oc trivial hst))
  case invokevirtual idx =>
    obtain ⟨hn, h0⟩ := gs_ln_st h
    clear h
    subst hn
    exact gs_site hct (b := 0) (idx := idx) (n := 3) hd h0 hk H locs lsA hw hS hL hLo hst
  case invokestatic idx =>
    obtain ⟨hn, h0⟩ := gs_ln_st h
    clear h
    subst hn
    exact gs_site hct (b := 1) (idx := idx) (n := 3) hd h0 hk H locs lsA hw hS hL hLo hst
  case invokespecial idx =>
    obtain ⟨hn, h0⟩ := gs_ln_st h
    clear h
    subst hn
    exact gs_site hct (b := 2) (idx := idx) (n := 3) hd h0 hk H locs lsA hw hS hL hLo hst
  case new idx =>
    obtain ⟨hn, h0⟩ := gs_ln_st h
    clear h
    subst hn
    exact gs_site hct (b := 3) (idx := idx) (n := 3) hd h0 hk H locs lsA hw hS hL hLo hst
  case newarray at0 =>
    cases at0
    case int =>
      obtain ⟨hn, h0⟩ := gs_ln_st h
      clear h
      subst hn
      exact gs_site hct (b := 4) (idx := 0) (n := 2) hd h0 hk H locs lsA hw hS hL hLo hst
    case boolean =>
      obtain ⟨hn, h0⟩ := gs_ln_st h
      clear h
      subst hn
      exact gs_site hct (b := 12) (idx := 0) (n := 2) hd h0 hk H locs lsA hw hS hL hLo hst
    all_goals exact False.elim h
  case anewarray idx =>
    obtain ⟨hn, h0⟩ := gs_ln_st h
    clear h
    subst hn
    exact gs_site hct (b := 5) (idx := idx) (n := 3) hd h0 hk H locs lsA hw hS hL hLo hst
  case getfield idx =>
    obtain ⟨hn, h0⟩ := gs_ln_st h
    clear h
    subst hn
    exact gs_site hct (b := 6) (idx := idx) (n := 3) hd h0 hk H locs lsA hw hS hL hLo hst
  case putfield idx =>
    obtain ⟨hn, h0⟩ := gs_ln_st h
    clear h
    subst hn
    exact gs_site hct (b := 7) (idx := idx) (n := 3) hd h0 hk H locs lsA hw hS hL hLo hst
  case iaload =>
    obtain ⟨hn, h0⟩ := gs_ln_st h
    clear h
    subst hn
    exact gs_site hct (b := 8) (idx := 0) (n := 1) hd h0 hk H locs lsA hw hS hL hLo hst
  case iastore =>
    obtain ⟨hn, h0⟩ := gs_ln_st h
    clear h
    subst hn
    exact gs_site hct (b := 9) (idx := 0) (n := 1) hd h0 hk H locs lsA hw hS hL hLo hst
  case aastore =>
    obtain ⟨hn, h0⟩ := gs_ln_st h
    clear h
    subst hn
    exact gs_site hct (b := 10) (idx := 0) (n := 1) hd h0 hk H locs lsA hw hS hL hLo hst
  case arraylength =>
    obtain ⟨hn, h0⟩ := gs_ln_st h
    clear h
    subst hn
    exact gs_site hct (b := 11) (idx := 0) (n := 1) hd h0 hk H locs lsA hw hS hL hLo hst
  case ireturn =>
    obtain ⟨hn, h0⟩ := gs_ln_st h
    clear h
    subst hn
    have h := h0
    clear h0
    rcases st with _ | ⟨x | r, _ | ⟨y, st⟩⟩
    · exact False.elim h
    · exact hR (some (.inl x)) _ pc H locs lsA σ (Or.inr ⟨x, rfl, rfl⟩) hd h hw hS
    all_goals exact False.elim h
  case return_ =>
    obtain ⟨hn, h0⟩ := gs_ln_st h
    clear h
    subst hn
    have h := h0
    clear h0
    rcases st with _ | ⟨x, st⟩
    · exact hR none _ pc H locs lsA σ (Or.inl ⟨rfl, rfl⟩) hd h hw hS
    · exact False.elim h
  all_goals exact False.elim h
end gsStep2
/-- a run that stops at given places, from which G goes on -/
def gs_ws {τ : Type} (CT : gs_C τ) (TS : sw_T) (N : Nat) (tree : Nat → sw_I) (Q : Option sw_V → τ → Prop) (G : Nat → sw_L → List sw_V → τ → Prop) (stop : Nat → Bool) : Nat → Nat → sw_L → List sw_V → τ → Prop
  | 0, pc, L, st, σ => G pc L st σ
  | n + 1, pc, L, st, σ => gs_st CT (TS pc) Q (fun pc' L' st' σ' => bif stop pc' then G pc' L' st' σ' else gs_ws CT TS N tree Q G stop n pc' L' st' σ') (sw_tab N tree pc) L st σ
def gs_chk (cc : ByteArray) (cn : List (Nat × Int32)) (TS : sw_T) (N : Nat) (tree : Nat → sw_I) : Bool :=
  (List.range (N + 1)).all (fun pc => Nat.beq (tree pc).1 99 || (match decode cc pc with
    | .ok q => decide (gs_ec cn (TS pc) pc q.2 q.1 = tree pc)
    | _ => false))
theorem gs_chk_ok {cc : ByteArray} {cn : List (Nat × Int32)} {TS : sw_T} {N : Nat} {tree : Nat → sw_I} (h : gs_chk cc cn TS N tree = true) (pc : Nat) : (sw_tab N tree pc).1 = 99 ∨ ∃ ins n, decode cc pc = .ok (ins, n) ∧ gs_ec cn (TS pc) pc n ins = sw_tab N tree pc := by
  unfold sw_tab
  cases hb : Nat.ble pc N with
  | false => exact Or.inl rfl
  | true =>
    rw [cond_true]
    have h1 := List.all_eq_true.mp h pc (List.mem_range.mpr (Nat.lt_succ_of_le (Nat.le_of_ble_eq_true hb)))
    rw [Bool.or_eq_true] at h1
    rcases h1 with h1 | h1
    · exact Or.inl (Nat.eq_of_beq_eq_true h1)
    · right
      cases hd : decode cc pc with
      | error z => rw [hd] at h1; cases h1
      | ok q =>
        rw [hd] at h1
        exact ⟨q.1, q.2, rfl, of_decide_eq_true h1⟩
section gsRun
variable {τ : Type} {Wd : τ → Heap → Prop} {cz sz : τ → Nat} {A : Nat → Prop} {p : Program} {l : Launch} {e : Env} {R : Room} {s : State} {m : MethodId} {args : Array Value} {below : List Frame} {meth : Method} {c : Code} {ad : sw_A} {V : Nat → Nat → Prop} {nL : Nat} {Qw : State → Prop}
variable {CT : gs_C τ} {TS : sw_T} {Qr : Option sw_V → τ → Prop} {cc : ByteArray} {cn : List (Nat × Int32)} {own : String} {N : Nat} {tree : Nat → sw_I} {G : Nat → sw_L → List sw_V → τ → Prop} {stop : Nat → Bool}
theorem gs_run (hx : p.tables.exec = Jvm.exec) (hb : c.code = cc) (hown : s.vm.findClass own = some m.cls) (hts : ∀ w ∈ sw_tbl, w.before args s = true)
    (hcn : ∀ q ∈ cn, Jvm.Cond.constant own q.1 q.2 ∈ sw_tbl) (hct : ∀ q ∈ CT, gs_cok Wd cz sz A p l e R s m args below meth c ad V cc nL Qw q)
    (hR : ∀ (r : Option sw_V) (ins : Instr) (pc : Nat) (H : Heap) (locs : List Loc) (lsA : Array Slot) (σ : τ), ((r = none ∧ ins = .return_) ∨ (∃ x : Int32, r = some (.inl x) ∧ ins = .ireturn)) → decode cc pc = .ok (ins, 1) → Qr r σ → Wd σ H → va_S A s.heap H locs → W p l e R s m args below meth c H locs (cz σ) (sz σ) Qw (F0 m pc lsA ((r.toList).map (sw_em ad))))
    (hchk : gs_chk cc cn TS N tree = true) (hG : ∀ pc' L' st' σ', G pc' L' st' σ' → gs_at Wd cz sz A p l e R s m args below meth c ad V nL Qw pc' L' st' σ') :
    ∀ (k pc : Nat) (L : sw_L) (st : List sw_V) (σ : τ), gs_ws CT TS N tree Qr G stop k pc L st σ → gs_at Wd cz sz A p l e R s m args below meth c ad V nL Qw pc L st σ
  | 0, pc, L, st, σ, h => hG _ _ _ _ h
  | k + 1, pc, L, st, σ, h => by
    rcases gs_chk_ok hchk pc with h99 | ⟨ins, nn, hd, hec⟩
    · replace h : gs_st CT (TS pc) Qr _ (sw_tab N tree pc) L st σ := h
      generalize sw_tab N tree pc = i at h h99
      obtain ⟨i1, i2, i3, i4, i5⟩ := i
      subst h99
      exact False.elim h
    · replace h : gs_st CT (TS pc) Qr (fun pc' L' st' σ' => bif stop pc' then G pc' L' st' σ' else gs_ws CT TS N tree Qr G stop k pc' L' st' σ') (sw_tab N tree pc) L st σ := h
      rw [← hec] at h
      refine gs_step hx hb hown hts hcn hct hR hd h (fun pc' L' st' σ' h' => ?_)
      cases hs : stop pc' with
      | true =>
        rw [hs] at h'
        exact hG _ _ _ _ h'
      | false =>
        rw [hs] at h'
        exact gs_run hx hb hown hts hcn hct hR hchk hG k pc' L' st' σ' h'
end gsRun
