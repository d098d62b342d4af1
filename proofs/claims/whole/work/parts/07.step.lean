/-! A call, as a step; and the step theorem -/
def sw_cok (p : Program) (l : Launch) (e : Env) (R : Room) (s : State) (m : MethodId) (args : Array Value) (below : List Frame) (meth : Method) (c : Code) (ad : sw_A) (V : Nat → Nat → Prop) (rf : sw_R) (ln : sw_A) (ca : Nat → ClassId) (D : va_G) (cc : ByteArray) (nL : Nat) (q : Nat × Nat × Nat × sw_F) : Prop :=
  ∀ (Qw : State → Prop) (pc : Nat) (H : Heap) (locs : List Loc) (lsA : Array Slot) (avs : List sw_V) (rest : List Value) (σ : sw_S),
    ((q.2.2.1 = 0 ∧ decode cc pc = .ok (.invokestatic q.1, 3)) ∨ (∃ c0 k tl, q.2.2.1 = c0 + 1 ∧ avs = .inr (some (c0, k)) :: tl ∧ decode cc pc = .ok (.invokevirtual q.1, 3))) →
    avs.length = q.2.1 → (∀ v ∈ avs, sw_ov V v) → sw_w ad V rf ln ca D σ H → va_S (sw_ad ad V) s.heap H locs → (q.2.2.2 avs σ).1 → (rest.map fun v => v.category).sum ≤ 8 → lsA.size = nL →
    (∀ (H1 : Heap) (locs1 : List Loc), sw_w ad V rf ln ca D (q.2.2.2 avs σ).2.2 H1 → va_S (sw_ad ad V) s.heap H1 locs1 → (∀ v, (q.2.2.2 avs σ).2.1 = some v → sw_ov V v) → W p l e R s m args below meth c H1 locs1 0 0 Qw (F0 m (pc + 3) lsA (((q.2.2.2 avs σ).2.1.toList).map (sw_em ad) ++ rest))) →
    W p l e R s m args below meth c H locs 0 0 Qw (F0 m pc lsA ((avs.map (sw_em ad)).reverse ++ rest))
def sw_rt (rt : Nat) (ret : Option FieldType) : Prop := (rt = 0 → ret = none) ∧ (rt = 1 → ret = some .int) ∧ (rt = 2 → ret = some .boolean) ∧ (rt = 3 → ∃ n, ret = some (.object n))
/-- the machine stands at a point of the method, in a world: it comes to the method's end -/
def sw_at (p : Program) (l : Launch) (e : Env) (R : Room) (s : State) (m : MethodId) (args : Array Value) (below : List Frame) (meth : Method) (c : Code) (ad : sw_A) (V : Nat → Nat → Prop) (rf : sw_R) (ln : sw_A) (ca : Nat → ClassId) (D : va_G) (nL : Nat) (Qc : Array Value → State → Outcome → State → Prop) (pc : Nat) (L : sw_L) (st : List sw_V) (σ : sw_S) : Prop :=
  ∀ (H : Heap) (locs : List Loc) (lsA : Array Slot), sw_w ad V rf ln ca D σ H → va_S (sw_ad ad V) s.heap H locs → sw_lh ad nL lsA L → (∀ (i : Nat) (v : sw_V), sw_get L i = some v → sw_ov V v) → (∀ v ∈ st, sw_ov V v) →
    W p l e R s m args below meth c H locs 0 0 (MQ below Qc args s 0 0 (sw_ad ad V)) (F0 m pc lsA (st.map (sw_em ad)))
theorem sw_oc {V : Nat → Nat → Prop} {v : sw_V} {st : List sw_V} (h1 : sw_ov V v) (h : ∀ v ∈ st, sw_ov V v) : ∀ w ∈ v :: st, sw_ov V w := List.forall_mem_cons.mpr ⟨h1, h⟩
theorem sw_ot {V : Nat → Nat → Prop} {v : sw_V} {st : List sw_V} (h : ∀ w ∈ v :: st, sw_ov V w) : ∀ w ∈ st, sw_ov V w := (List.forall_mem_cons.mp h).2
theorem sw_oh {V : Nat → Nat → Prop} {v : sw_V} {st : List sw_V} (h : ∀ w ∈ v :: st, sw_ov V w) : sw_ov V v := (List.forall_mem_cons.mp h).1
theorem sw_os {V : Nat → Nat → Prop} {v : sw_V} {L : sw_L} {i : Nat} (h1 : sw_ov V v) (h : ∀ (i : Nat) (v : sw_V), sw_get L i = some v → sw_ov V v) : ∀ (j : Nat) (w : sw_V), sw_get (sw_set L i v) j = some w → sw_ov V w := by
  intro j w hj
  rw [sw_get_set] at hj
  by_cases hc : j = i ∧ i < L.length
  · rw [if_pos hc] at hj
    cases hj
    exact h1
  · rw [if_neg hc] at hj
    exact h j w hj
theorem sw_cats (ad : sw_A) : ∀ st : List sw_V, ((st.map (sw_em ad)).map fun v => v.category).sum = st.length
  | [] => rfl
  | v :: st => by
    rw [List.map_cons, List.map_cons, List.sum_cons, sw_cats ad st, sw_em_cat, List.length_cons]
    omega
theorem sw_bif {b : Bool} {P : Prop} (h : bif b then P else False) : b = true ∧ P := by
  cases b with
  | true => exact ⟨rfl, h⟩
  | false => exact False.elim h
theorem sw_rc_of0 {md : Nat} {avs : List sw_V} {cc : ByteArray} {pc idx : Nat} (h : sw_rc md 0 avs = true) (hd : decode cc pc = .ok (.invokevirtual idx, 3)) : (md = 0 ∧ decode cc pc = .ok (.invokestatic idx, 3)) ∨ (∃ c0 k tl, md = c0 + 1 ∧ avs = .inr (some (c0, k)) :: tl ∧ decode cc pc = .ok (.invokevirtual idx, 3)) := by
  match md, avs, h with
  | 0, _, h => cases h
  | c0 + 1, [], h => cases h
  | c0 + 1, .inl _ :: _, h => cases h
  | c0 + 1, .inr none :: _, h => cases h
  | c0 + 1, .inr (some q) :: tl, h =>
    have h1 : q.1 = c0 := Nat.eq_of_beq_eq_true h
    exact Or.inr ⟨c0, q.2, tl, rfl, by rw [← h1], hd⟩
theorem sw_rc_of1 {md : Nat} {avs : List sw_V} {cc : ByteArray} {pc idx : Nat} (h : sw_rc md 1 avs = true) (hd : decode cc pc = .ok (.invokestatic idx, 3)) : (md = 0 ∧ decode cc pc = .ok (.invokestatic idx, 3)) ∨ (∃ c0 k tl, md = c0 + 1 ∧ avs = .inr (some (c0, k)) :: tl ∧ decode cc pc = .ok (.invokevirtual idx, 3)) := by
  match md, h with
  | 0, _ => exact Or.inl ⟨rfl, hd⟩
  | c0 + 1, h => cases h
theorem sw_em_r (ad : sw_A) (r : Option (Nat × Nat)) : sw_em ad (.inr r) = .null ∨ ∃ a, sw_em ad (.inr r) = .ref a := by
  cases r with
  | none => exact Or.inl rfl
  | some q => exact Or.inr ⟨_, rfl⟩
section swStep2
variable {p : Program} {l : Launch} {e : Env} {R : Room} {s : State} {m : MethodId} {args : Array Value} {below : List Frame} {meth : Method} {c : Code} {ad : sw_A} {V : Nat → Nat → Prop} {rf : sw_R} {ln : sw_A} {ca : Nat → ClassId} {D : va_G} {nL : Nat} {Qc : Array Value → State → Outcome → State → Prop}
variable {CT : sw_C} {TS : List (Int32 × Nat)} {rt : Nat} {Qr : Option sw_V → sw_S → Prop} {K : Nat → sw_L → List sw_V → sw_S → Prop} {L : sw_L} {st : List sw_V} {σ : sw_S} {cc : ByteArray} {fl : List (Nat × Nat × Nat)} {cn : List (Nat × Int32)} {own : String} {pc n : Nat} {ins : Instr} {ret : Option FieldType}
set_option maxHeartbeats 4000000 in
theorem sw_step (hx : p.tables.exec = Jvm.exec) (hb : c.code = cc) (hml : c.maxLocals = nL) (hr : meth.sig.returnType = ret) (hrt : sw_rt rt ret) (hlocks : meth.locks = false) (hown : s.vm.findClass own = some m.cls) (hts : ∀ w ∈ sw_tbl, w.before args s = true) (hT : va_K D vwCl (sw_ty ca) s) (hG : sw_wf ad V rf ln)
    (hfl : ∀ q ∈ fl, Cond.fieldLink own q.1 ((sw_cl q.2.1).2.1 q.2.2).1 ((sw_cl q.2.1).2.1 q.2.2).2.1 ((sw_cl q.2.1).2.1 q.2.2).2.2.1 ∈ sw_tbl) (hcn : ∀ q ∈ cn, Jvm.Cond.constant own q.1 q.2 ∈ sw_tbl) (hct : ∀ q ∈ CT, sw_cok p l e R s m args below meth c ad V rf ln ca D cc nL q)
    (hQ : ∀ (r : Option sw_V) (σ' : sw_S) (H : Heap) (locs : List Loc), Qr r σ' → (∀ v, r = some v → sw_ov V v) → sw_w ad V rf ln ca D σ' H → va_S (sw_ad ad V) s.heap H locs → ∀ t : State, t.heap = H → s.WarmedH t.vm → Qc args s (.returned (r.map (sw_em ad))) t)
    (hd : decode cc pc = .ok (ins, n)) (h : sw_st rf ln CT TS rt Qr K (sw_ec fl cn TS pc n ins) L st σ) (hk : ∀ pc' L' st' σ', K pc' L' st' σ' → sw_at p l e R s m args below meth c ad V rf ln ca D nL Qc pc' L' st' σ') :
    sw_at p l e R s m args below meth c ad V rf ln ca D nL Qc pc L st σ := by
  intro H locs lsA hw hS hL hLo hst
  cases ins
  case iconst z =>
    obtain ⟨hn, h0⟩ := sw_ln_st h
    clear h
    subst hn
    have h := h0
    clear h0
    exact lv_iconst hx hb hd rfl (hk _ _ _ _ h H locs lsA hw hS hL hLo (sw_oc trivial hst))
  case bipush z =>
    obtain ⟨hn, h0⟩ := sw_ln_st h
    clear h
    subst hn
    have h := h0
    clear h0
    exact lv_bipush hx hb hd rfl (hk _ _ _ _ h H locs lsA hw hS hL hLo (sw_oc trivial hst))
  case sipush z =>
    obtain ⟨hn, h0⟩ := sw_ln_st h
    clear h
    subst hn
    have h := h0
    clear h0
    exact lv_sipush hx hb hd rfl (hk _ _ _ _ h H locs lsA hw hS hL hLo (sw_oc trivial hst))
  case ldc idx =>
    obtain ⟨hn, h0⟩ := sw_ln_st h
    clear h
    subst hn
    have h := h0
    clear h0
    obtain ⟨v, hv, h⟩ := sw_op_st h
    exact lv_ldc hx hb hown (hts _ (hcn _ (sw_cn_in hv))) hd (hk _ _ _ _ h H locs lsA hw hS hL hLo (sw_oc trivial hst))
  case iload i =>
    obtain ⟨hn, h0⟩ := sw_ln_st h
    clear h
    subst hn
    have h := h0
    clear h0
    replace h : (match sw_get L i with
      | some (.inl x) => K (pc + 2) L (.inl x :: st) σ
      | _ => False) := h
    cases hg : sw_get L i with
    | none => rw [hg] at h; exact h.elim
    | some v =>
      rw [hg] at h
      rcases v with x | r
      · exact lv_iload hx hb hd (hL.2.2.2 i _ hg) (hk _ _ _ _ h H locs lsA hw hS hL hLo (sw_oc trivial hst))
      · exact h.elim
  case iload_n i =>
    obtain ⟨hn, h0⟩ := sw_ln_st h
    clear h
    subst hn
    have h := h0
    clear h0
    replace h : (match sw_get L i.val with
      | some (.inl x) => K (pc + 1) L (.inl x :: st) σ
      | _ => False) := h
    cases hg : sw_get L i.val with
    | none => rw [hg] at h; exact h.elim
    | some v =>
      rw [hg] at h
      rcases v with x | r
      · exact lv_iload_n hx hb hd rfl (hL.2.2.2 i.val _ hg) (hk _ _ _ _ h H locs lsA hw hS hL hLo (sw_oc trivial hst))
      · exact h.elim
  case aload i =>
    obtain ⟨hn, h0⟩ := sw_ln_st h
    clear h
    subst hn
    have h := h0
    clear h0
    replace h : (match sw_get L i with
      | some (.inr r) => K (pc + 2) L (.inr r :: st) σ
      | _ => False) := h
    cases hg : sw_get L i with
    | none => rw [hg] at h; exact h.elim
    | some v =>
      rw [hg] at h
      rcases v with x | _ | r
      · exact h.elim
      · exact lv_aloadN hx hb hd (hL.2.2.2 i _ hg) (hk _ _ _ _ h H locs lsA hw hS hL hLo (sw_oc (hLo i _ hg) hst))
      · exact lv_aload hx hb hd (hL.2.2.2 i _ hg) (hk _ _ _ _ h H locs lsA hw hS hL hLo (sw_oc (hLo i _ hg) hst))
  case aload_n i =>
    obtain ⟨hn, h0⟩ := sw_ln_st h
    clear h
    subst hn
    have h := h0
    clear h0
    replace h : (match sw_get L i.val with
      | some (.inr r) => K (pc + 1) L (.inr r :: st) σ
      | _ => False) := h
    cases hg : sw_get L i.val with
    | none => rw [hg] at h; exact h.elim
    | some v =>
      rw [hg] at h
      rcases v with x | _ | r
      · exact h.elim
      · exact lv_aload_nN hx hb hd rfl (hL.2.2.2 i.val _ hg) (hk _ _ _ _ h H locs lsA hw hS hL hLo (sw_oc (hLo i.val _ hg) hst))
      · exact lv_aload_n hx hb hd rfl (hL.2.2.2 i.val _ hg) (hk _ _ _ _ h H locs lsA hw hS hL hLo (sw_oc (hLo i.val _ hg) hst))
  case istore i =>
    obtain ⟨hn, h0⟩ := sw_ln_st h
    clear h
    subst hn
    have h := h0
    clear h0
    rcases st with _ | ⟨x | r, st⟩
    · exact False.elim h
    · obtain ⟨hi, h⟩ := sw_bif h
      have hi : i < nL := by rw [← hL.2.2.1]; exact Nat.le_of_ble_eq_true hi
      exact lv_istore hx hb hd hL.has hi rfl (fun ls' h' => hk _ _ _ _ h H locs ls' hw hS (hL.set (v := .inl x) hi h') (sw_os trivial hLo) (sw_ot hst))
    · exact False.elim h
  case istore_n i =>
    obtain ⟨hn, h0⟩ := sw_ln_st h
    clear h
    subst hn
    have h := h0
    clear h0
    rcases st with _ | ⟨x | r, st⟩
    · exact False.elim h
    · obtain ⟨hi, h⟩ := sw_bif h
      have hi : i.val < nL := by rw [← hL.2.2.1]; exact Nat.le_of_ble_eq_true hi
      exact lv_istore_n hx hb hd rfl hL.has hi rfl (fun ls' h' => hk _ _ _ _ h H locs ls' hw hS (hL.set (v := .inl x) hi h') (sw_os trivial hLo) (sw_ot hst))
    · exact False.elim h
  case astore i =>
    obtain ⟨hn, h0⟩ := sw_ln_st h
    clear h
    subst hn
    have h := h0
    clear h0
    rcases st with _ | ⟨x | _ | r, st⟩
    · exact False.elim h
    · exact False.elim h
    · obtain ⟨hi, h⟩ := sw_bif h
      have hi : i < nL := by rw [← hL.2.2.1]; exact Nat.le_of_ble_eq_true hi
      exact lv_astoreN hx hb hd hL.has hi rfl (fun ls' h' => hk _ _ _ _ h H locs ls' hw hS (hL.set (v := .inr none) hi h') (sw_os trivial hLo) (sw_ot hst))
    · obtain ⟨hi, h⟩ := sw_bif h
      have hi : i < nL := by rw [← hL.2.2.1]; exact Nat.le_of_ble_eq_true hi
      exact lv_astore hx hb hd hL.has hi rfl (fun ls' h' => hk _ _ _ _ h H locs ls' hw hS (hL.set (v := .inr (some r)) hi h') (sw_os (sw_oh hst) hLo) (sw_ot hst))
  case astore_n i =>
    obtain ⟨hn, h0⟩ := sw_ln_st h
    clear h
    subst hn
    have h := h0
    clear h0
    rcases st with _ | ⟨x | _ | r, st⟩
    · exact False.elim h
    · exact False.elim h
    · obtain ⟨hi, h⟩ := sw_bif h
      have hi : i.val < nL := by rw [← hL.2.2.1]; exact Nat.le_of_ble_eq_true hi
      exact lv_astore_nN hx hb hd rfl hL.has hi rfl (fun ls' h' => hk _ _ _ _ h H locs ls' hw hS (hL.set (v := .inr none) hi h') (sw_os trivial hLo) (sw_ot hst))
    · obtain ⟨hi, h⟩ := sw_bif h
      have hi : i.val < nL := by rw [← hL.2.2.1]; exact Nat.le_of_ble_eq_true hi
      exact lv_astore_n hx hb hd rfl hL.has hi rfl (fun ls' h' => hk _ _ _ _ h H locs ls' hw hS (hL.set (v := .inr (some r)) hi h') (sw_os (sw_oh hst) hLo) (sw_ot hst))
  case iinc i z =>
    obtain ⟨hn, h0⟩ := sw_ln_st h
    clear h
    subst hn
    have h := h0
    clear h0
    replace h : (match sw_get L i with
      | some (.inl x) => K (pc + 3) (sw_set L i (.inl (x + Int32.ofInt z))) st σ
      | _ => False) := h
    cases hg : sw_get L i with
    | none => rw [hg] at h; exact h.elim
    | some v =>
      rw [hg] at h
      rcases v with x | r
      · have hi : i < nL := by rw [← hL.2.2.1]; exact sw_get_lt hg
        obtain ⟨q, hq⟩ := List.getElem?_of_mem (sw_lp_in ad L 0 i _ hg)
        rw [Nat.zero_add] at hq
        exact lv_iinc hx hb hd hL.has hq rfl hi rfl (fun ls' h' => hk _ _ _ _ h H locs ls' hw hS (hL.set (v := .inl (x + Int32.ofInt z)) hi h') (sw_os trivial hLo) hst)
      · exact h.elim
  case iadd =>
    obtain ⟨hn, h0⟩ := sw_ln_st h
    clear h
    subst hn
    have h := h0
    clear h0
    rcases st with _ | ⟨y | r, _ | ⟨x | r', st⟩⟩
    · exact False.elim h
    · exact False.elim h
    · exact lv_iadd hx hb hd (hk _ _ _ _ h H locs lsA hw hS hL hLo (sw_oc trivial (sw_ot (sw_ot hst))))
    · exact False.elim h
    · exact False.elim h
    · exact False.elim h
    · exact False.elim h
  case isub =>
    obtain ⟨hn, h0⟩ := sw_ln_st h
    clear h
    subst hn
    have h := h0
    clear h0
    rcases st with _ | ⟨y | r, _ | ⟨x | r', st⟩⟩
    · exact False.elim h
    · exact False.elim h
    · exact lv_isub hx hb hd (hk _ _ _ _ h H locs lsA hw hS hL hLo (sw_oc trivial (sw_ot (sw_ot hst))))
    · exact False.elim h
    · exact False.elim h
    · exact False.elim h
    · exact False.elim h
  case imul =>
    obtain ⟨hn, h0⟩ := sw_ln_st h
    clear h
    subst hn
    have h := h0
    clear h0
    rcases st with _ | ⟨y | r, _ | ⟨x | r', st⟩⟩
    · exact False.elim h
    · exact False.elim h
    · exact lv_imul hx hb hd (hk _ _ _ _ h H locs lsA hw hS hL hLo (sw_oc trivial (sw_ot (sw_ot hst))))
    · exact False.elim h
    · exact False.elim h
    · exact False.elim h
    · exact False.elim h
  case iand =>
    obtain ⟨hn, h0⟩ := sw_ln_st h
    clear h
    subst hn
    have h := h0
    clear h0
    rcases st with _ | ⟨y | r, _ | ⟨x | r', st⟩⟩
    · exact False.elim h
    · exact False.elim h
    · exact lv_iand hx hb hd (hk _ _ _ _ h H locs lsA hw hS hL hLo (sw_oc trivial (sw_ot (sw_ot hst))))
    · exact False.elim h
    · exact False.elim h
    · exact False.elim h
    · exact False.elim h
  case ior =>
    obtain ⟨hn, h0⟩ := sw_ln_st h
    clear h
    subst hn
    have h := h0
    clear h0
    rcases st with _ | ⟨y | r, _ | ⟨x | r', st⟩⟩
    · exact False.elim h
    · exact False.elim h
    · exact lv_ior hx hb hd (hk _ _ _ _ h H locs lsA hw hS hL hLo (sw_oc trivial (sw_ot (sw_ot hst))))
    · exact False.elim h
    · exact False.elim h
    · exact False.elim h
    · exact False.elim h
  case ixor =>
    obtain ⟨hn, h0⟩ := sw_ln_st h
    clear h
    subst hn
    have h := h0
    clear h0
    rcases st with _ | ⟨y | r, _ | ⟨x | r', st⟩⟩
    · exact False.elim h
    · exact False.elim h
    · exact lv_ixor hx hb hd (hk _ _ _ _ h H locs lsA hw hS hL hLo (sw_oc trivial (sw_ot (sw_ot hst))))
    · exact False.elim h
    · exact False.elim h
    · exact False.elim h
    · exact False.elim h
  case ishl =>
    obtain ⟨hn, h0⟩ := sw_ln_st h
    clear h
    subst hn
    have h := h0
    clear h0
    rcases st with _ | ⟨y | r, _ | ⟨x | r', st⟩⟩
    · exact False.elim h
    · exact False.elim h
    · exact lv_ishl hx hb hd (hk _ _ _ _ h H locs lsA hw hS hL hLo (sw_oc trivial (sw_ot (sw_ot hst))))
    · exact False.elim h
    · exact False.elim h
    · exact False.elim h
    · exact False.elim h
  case ishr =>
    obtain ⟨hn, h0⟩ := sw_ln_st h
    clear h
    subst hn
    have h := h0
    clear h0
    rcases st with _ | ⟨y | r, _ | ⟨x | r', st⟩⟩
    · exact False.elim h
    · exact False.elim h
    · exact lv_ishr hx hb hd (hk _ _ _ _ h H locs lsA hw hS hL hLo (sw_oc trivial (sw_ot (sw_ot hst))))
    · exact False.elim h
    · exact False.elim h
    · exact False.elim h
    · exact False.elim h
  case iushr =>
    obtain ⟨hn, h0⟩ := sw_ln_st h
    clear h
    subst hn
    have h := h0
    clear h0
    rcases st with _ | ⟨y | r, _ | ⟨x | r', st⟩⟩
    · exact False.elim h
    · exact False.elim h
    · exact lv_iushr hx hb hd rfl (hk _ _ _ _ h H locs lsA hw hS hL hLo (sw_oc trivial (sw_ot (sw_ot hst))))
    · exact False.elim h
    · exact False.elim h
    · exact False.elim h
    · exact False.elim h
  case idiv =>
    obtain ⟨hn, h0⟩ := sw_ln_st h
    clear h
    subst hn
    have h := h0
    clear h0
    rcases st with _ | ⟨y | r, _ | ⟨x | r', st⟩⟩
    · exact False.elim h
    · exact False.elim h
    · exact lv_idiv hx hb hd h.1 (hk _ _ _ _ h.2 H locs lsA hw hS hL hLo (sw_oc trivial (sw_ot (sw_ot hst))))
    · exact False.elim h
    · exact False.elim h
    · exact False.elim h
    · exact False.elim h
  case irem =>
    obtain ⟨hn, h0⟩ := sw_ln_st h
    clear h
    subst hn
    have h := h0
    clear h0
    rcases st with _ | ⟨y | r, _ | ⟨x | r', st⟩⟩
    · exact False.elim h
    · exact False.elim h
    · exact lv_irem hx hb hd h.1 (hk _ _ _ _ h.2 H locs lsA hw hS hL hLo (sw_oc trivial (sw_ot (sw_ot hst))))
    · exact False.elim h
    · exact False.elim h
    · exact False.elim h
    · exact False.elim h
  case getfield idx =>
    obtain ⟨hn, h0⟩ := sw_ln_st h
    clear h
    subst hn
    have h := h0
    clear h0
    obtain ⟨⟨a, b⟩, hv, h⟩ := sw_op_st h
    have hlink := hfl _ (sw_fl_in hv)
    rcases st with _ | ⟨x | _ | ⟨q1, k⟩, st⟩
    · exact False.elim h
    · exact False.elim h
    · exact False.elim h
    · obtain ⟨ha, h⟩ := sw_bif h
      have ha : q1 = a := Nat.eq_of_beq_eq_true ha
      subst ha
      have hV : V q1 k := sw_oh hst
      cases hl : sw_lay q1 with
      | inr t => rw [hl] at h; exact h.elim
      | inl ds =>
        rw [hl] at h
        replace h : (match sw_nth ds b with
          | some d => K (pc + 3) L ((bif Nat.blt d 3 then .inl (σ q1 k b) else .inr (some (d - 3, rf q1 k b))) :: st) σ
          | none => False) := h
        cases hdd : sw_nth ds b with
        | none => rw [hdd] at h; exact h.elim
        | some d =>
          rw [hdd] at h
          refine sw_getf hx hb hts hown hT hw hV hl hdd hlink hd ?_
          unfold sw_fv
          cases h3 : Nat.blt d 3 with
          | true =>
            replace h : K (pc + 3) L ((bif Nat.blt d 3 then .inl (σ q1 k b) else .inr (some (d - 3, rf q1 k b))) :: st) σ := h
            rw [h3] at h
            exact hk _ _ _ _ h H locs lsA hw hS hL hLo (sw_oc trivial (sw_ot hst))
          | false =>
            replace h : K (pc + 3) L ((bif Nat.blt d 3 then .inl (σ q1 k b) else .inr (some (d - 3, rf q1 k b))) :: st) σ := h
            rw [h3] at h
            refine hk _ _ _ _ h H locs lsA hw hS hL hLo (sw_oc (hG.2.1 q1 k ds b d hV hl hdd ?_) (sw_ot hst))
            rcases Nat.lt_or_ge d 3 with z | z
            · exact absurd (Nat.ble_eq.mpr z) (by show ¬ Nat.blt d 3 = true; rw [h3]; decide)
            · exact z
  case putfield idx =>
    obtain ⟨hn, h0⟩ := sw_ln_st h
    clear h
    subst hn
    have h := h0
    clear h0
    obtain ⟨⟨a, b⟩, hv, h⟩ := sw_op_st h
    have hlink := hfl _ (sw_fl_in hv)
    rcases st with _ | ⟨x | r, _ | ⟨y | _ | ⟨q1, k⟩, st⟩⟩
    · exact False.elim h
    · exact False.elim h
    · exact False.elim h
    · exact False.elim h
    · obtain ⟨ha, h⟩ := sw_bif h
      have ha : q1 = a := Nat.eq_of_beq_eq_true ha
      subst ha
      have hV : V q1 k := sw_oh (sw_ot hst)
      cases hl : sw_lay q1 with
      | inr t => rw [hl] at h; exact h.elim
      | inl ds =>
        rw [hl] at h
        replace h : (match sw_nth ds b with
          | some 0 => K (pc + 3) L st (sw_up σ q1 k b x)
          | some 1 => sw_bo x ∧ K (pc + 3) L st (sw_up σ q1 k b x)
          | _ => False) := h
        cases hdd : sw_nth ds b with
        | none => rw [hdd] at h; exact h.elim
        | some d =>
          rw [hdd] at h
          match d, hdd, h with
          | 0, hdd, h => exact sw_putf hx hb hts hown hT hG hw hS hV hl hdd (Or.inl rfl) hlink hd (fun H1 locs1 hw1 hS1 => hk _ _ _ _ h H1 locs1 lsA hw1 hS1 hL hLo (sw_ot (sw_ot hst)))
          | 1, hdd, h => exact sw_putf hx hb hts hown hT hG hw hS hV hl hdd (Or.inr ⟨rfl, h.1⟩) hlink hd (fun H1 locs1 hw1 hS1 => hk _ _ _ _ h.2 H1 locs1 lsA hw1 hS1 hL hLo (sw_ot (sw_ot hst)))
          | d + 2, hdd, h => exact False.elim h
    all_goals exact False.elim h
  case iaload =>
    obtain ⟨hn, h0⟩ := sw_ln_st h
    clear h
    subst hn
    have h := h0
    clear h0
    rcases st with _ | ⟨j | r, _ | ⟨y | _ | ⟨q1, k⟩, st⟩⟩
    · exact False.elim h
    · exact False.elim h
    · exact False.elim h
    · exact False.elim h
    · have hV : V q1 k := sw_oh (sw_ot hst)
      cases hl : sw_lay q1 with
      | inl ds => replace h : (match sw_lay q1 with
          | .inr t => vp_in j (ln q1 k) ∧ (bif Nat.beq t 0 then K (pc + 1) L (.inl (σ q1 k j.toNatClampNeg) :: st) σ else False)
          | _ => False) := h
                  rw [hl] at h; exact h.elim
      | inr t =>
        replace h : (match sw_lay q1 with
          | .inr t => vp_in j (ln q1 k) ∧ (bif Nat.beq t 0 then K (pc + 1) L (.inl (σ q1 k j.toNatClampNeg) :: st) σ else False)
          | _ => False) := h
        rw [hl] at h
        obtain ⟨hin, h⟩ := h
        obtain ⟨ht, h⟩ := sw_bif h
        have ht : t = 0 := Nat.eq_of_beq_eq_true ht
        subst ht
        exact sw_ald hx hb hT hw hV hin (Or.inl ⟨hl, hd⟩) (hk _ _ _ _ h H locs lsA hw hS hL hLo (sw_oc trivial (sw_ot (sw_ot hst))))
    all_goals exact False.elim h
  case baload =>
    obtain ⟨hn, h0⟩ := sw_ln_st h
    clear h
    subst hn
    have h := h0
    clear h0
    rcases st with _ | ⟨j | r, _ | ⟨y | _ | ⟨q1, k⟩, st⟩⟩
    · exact False.elim h
    · exact False.elim h
    · exact False.elim h
    · exact False.elim h
    · have hV : V q1 k := sw_oh (sw_ot hst)
      cases hl : sw_lay q1 with
      | inl ds => replace h : (match sw_lay q1 with
          | .inr t => vp_in j (ln q1 k) ∧ (bif Nat.beq t 1 then K (pc + 1) L (.inl (σ q1 k j.toNatClampNeg) :: st) σ else False)
          | _ => False) := h
                  rw [hl] at h; exact h.elim
      | inr t =>
        replace h : (match sw_lay q1 with
          | .inr t => vp_in j (ln q1 k) ∧ (bif Nat.beq t 1 then K (pc + 1) L (.inl (σ q1 k j.toNatClampNeg) :: st) σ else False)
          | _ => False) := h
        rw [hl] at h
        obtain ⟨hin, h⟩ := h
        obtain ⟨ht, h⟩ := sw_bif h
        have ht : t = 1 := Nat.eq_of_beq_eq_true ht
        subst ht
        exact sw_ald hx hb hT hw hV hin (Or.inr ⟨hl, hd⟩) (hk _ _ _ _ h H locs lsA hw hS hL hLo (sw_oc trivial (sw_ot (sw_ot hst))))
    all_goals exact False.elim h
  case aaload =>
    obtain ⟨hn, h0⟩ := sw_ln_st h
    clear h
    subst hn
    have h := h0
    clear h0
    rcases st with _ | ⟨j | r, _ | ⟨y | _ | ⟨q1, k⟩, st⟩⟩
    · exact False.elim h
    · exact False.elim h
    · exact False.elim h
    · exact False.elim h
    · have hV : V q1 k := sw_oh (sw_ot hst)
      replace h : (match sw_lay q1 with
          | .inr t => vp_in j (ln q1 k) ∧ (bif Nat.ble 2 t then K (pc + 1) L (.inr (some (t - 2, rf q1 k j.toNatClampNeg)) :: st) σ else False)
          | _ => False) := h
      cases hl : sw_lay q1 with
      | inl ds => rw [hl] at h; exact h.elim
      | inr t =>
        rw [hl] at h
        obtain ⟨hin, h⟩ := h
        obtain ⟨ht, h⟩ := sw_bif h
        have ht : 2 ≤ t := Nat.le_of_ble_eq_true ht
        have hj : j.toNatClampNeg < ln q1 k := Nat.not_le.mp fun z => hin (Or.inr z)
        exact sw_aldq hx hb hT hG hw hV hin hl ht hd (hk _ _ _ _ h H locs lsA hw hS hL hLo (sw_oc (hG.2.2.1 q1 k t _ hV hl ht hj) (sw_ot (sw_ot hst))))
    all_goals exact False.elim h
  case iastore =>
    obtain ⟨hn, h0⟩ := sw_ln_st h
    clear h
    subst hn
    have h := h0
    clear h0
    rcases st with _ | ⟨x | r, _ | ⟨j | r, _ | ⟨y | _ | ⟨q1, k⟩, st⟩⟩⟩
    · exact False.elim h
    · exact False.elim h
    · exact False.elim h
    · exact False.elim h
    · exact False.elim h
    · have hV : V q1 k := sw_oh (sw_ot (sw_ot hst))
      replace h : (match sw_lay q1 with
          | .inr t => bif Nat.beq t 0 then (vp_in j (ln q1 k) ∧ K (pc + 1) L st (sw_up σ q1 k j.toNatClampNeg x)) else False
          | _ => False) := h
      cases hl : sw_lay q1 with
      | inl ds => rw [hl] at h; exact h.elim
      | inr t =>
        rw [hl] at h
        obtain ⟨ht, h⟩ := sw_bif h
        have ht : t = 0 := Nat.eq_of_beq_eq_true ht
        subst ht
        obtain ⟨hin, h⟩ := h
        exact sw_ast hx hb hT hG hw hS hV hin (Or.inl ⟨hl, hd⟩) (fun H1 locs1 hw1 hS1 => hk _ _ _ _ h H1 locs1 lsA hw1 hS1 hL hLo (sw_ot (sw_ot (sw_ot hst))))
    all_goals exact False.elim h
  case bastore =>
    obtain ⟨hn, h0⟩ := sw_ln_st h
    clear h
    subst hn
    have h := h0
    clear h0
    rcases st with _ | ⟨x | r, _ | ⟨j | r, _ | ⟨y | _ | ⟨q1, k⟩, st⟩⟩⟩
    · exact False.elim h
    · exact False.elim h
    · exact False.elim h
    · exact False.elim h
    · exact False.elim h
    · have hV : V q1 k := sw_oh (sw_ot (sw_ot hst))
      replace h : (match sw_lay q1 with
          | .inr t => bif Nat.beq t 1 then (vp_in j (ln q1 k) ∧ (sw_bo x ∧ K (pc + 1) L st (sw_up σ q1 k j.toNatClampNeg x))) else False
          | _ => False) := h
      cases hl : sw_lay q1 with
      | inl ds => rw [hl] at h; exact h.elim
      | inr t =>
        rw [hl] at h
        obtain ⟨ht, h⟩ := sw_bif h
        have ht : t = 1 := Nat.eq_of_beq_eq_true ht
        subst ht
        obtain ⟨hin, h⟩ := h
        exact sw_ast hx hb hT hG hw hS hV hin (Or.inr ⟨hl, h.1, hd⟩) (fun H1 locs1 hw1 hS1 => hk _ _ _ _ h.2 H1 locs1 lsA hw1 hS1 hL hLo (sw_ot (sw_ot (sw_ot hst))))
    all_goals exact False.elim h
  case arraylength =>
    obtain ⟨hn, h0⟩ := sw_ln_st h
    clear h
    subst hn
    have h := h0
    clear h0
    rcases st with _ | ⟨y | _ | ⟨q1, k⟩, st⟩
    · exact False.elim h
    · exact False.elim h
    · exact False.elim h
    · have hV : V q1 k := sw_oh hst
      replace h : (match sw_lay q1 with
          | .inr t => bif Nat.ble t 4 then K (pc + 1) L (.inl (nI (ln q1 k)) :: st) σ else False
          | _ => False) := h
      cases hl : sw_lay q1 with
      | inl ds => rw [hl] at h; exact h.elim
      | inr t =>
        rw [hl] at h
        obtain ⟨ht, h⟩ := sw_bif h
        exact sw_len hx hb hT hG hw hV hl hd (hk _ _ _ _ h H locs lsA hw hS hL hLo (sw_oc trivial (sw_ot hst)))
  case ifCond cd off =>
    obtain ⟨hn, h0⟩ := sw_ln_st h
    clear h
    subst hn
    have h := h0
    clear h0
    obtain ⟨t, ht, h⟩ := sw_tg_st h
    rcases st with _ | ⟨x | r, st⟩
    · exact False.elim h
    · cases cd
      · exact lv_if_eq hx hb hd ht (fun z => hk _ _ _ _ (h.1 z) H locs lsA hw hS hL hLo (sw_ot hst)) (fun z => hk _ _ _ _ (h.2 z) H locs lsA hw hS hL hLo (sw_ot hst))
      · exact lv_if_ne hx hb hd ht (fun z => hk _ _ _ _ (h.1 z) H locs lsA hw hS hL hLo (sw_ot hst)) (fun z => hk _ _ _ _ (h.2 z) H locs lsA hw hS hL hLo (sw_ot hst))
      · exact lv_if_lt hx hb hd ht (fun z => hk _ _ _ _ (h.1 z) H locs lsA hw hS hL hLo (sw_ot hst)) (fun z => hk _ _ _ _ (h.2 z) H locs lsA hw hS hL hLo (sw_ot hst))
      · exact lv_if_ge hx hb hd ht (fun z => hk _ _ _ _ (h.1 z) H locs lsA hw hS hL hLo (sw_ot hst)) (fun z => hk _ _ _ _ (h.2 z) H locs lsA hw hS hL hLo (sw_ot hst))
      · exact lv_if_gt hx hb hd ht (fun z => hk _ _ _ _ (h.1 z) H locs lsA hw hS hL hLo (sw_ot hst)) (fun z => hk _ _ _ _ (h.2 z) H locs lsA hw hS hL hLo (sw_ot hst))
      · exact lv_if_le hx hb hd ht (fun z => hk _ _ _ _ (h.1 z) H locs lsA hw hS hL hLo (sw_ot hst)) (fun z => hk _ _ _ _ (h.2 z) H locs lsA hw hS hL hLo (sw_ot hst))
    · exact False.elim h
  case if_icmp cd off =>
    obtain ⟨hn, h0⟩ := sw_ln_st h
    clear h
    subst hn
    have h := h0
    clear h0
    obtain ⟨t, ht, h⟩ := sw_tg_st h
    rcases st with _ | ⟨y | r, _ | ⟨x | r', st⟩⟩
    · exact False.elim h
    · exact False.elim h
    · cases cd
      · exact lv_icmp_eq hx hb hd ht (fun z => hk _ _ _ _ (h.1 z) H locs lsA hw hS hL hLo (sw_ot (sw_ot hst))) (fun z => hk _ _ _ _ (h.2 z) H locs lsA hw hS hL hLo (sw_ot (sw_ot hst)))
      · exact lv_icmp_ne hx hb hd ht (fun z => hk _ _ _ _ (h.1 z) H locs lsA hw hS hL hLo (sw_ot (sw_ot hst))) (fun z => hk _ _ _ _ (h.2 z) H locs lsA hw hS hL hLo (sw_ot (sw_ot hst)))
      · exact lv_icmp_lt hx hb hd ht (fun z => hk _ _ _ _ (h.1 z) H locs lsA hw hS hL hLo (sw_ot (sw_ot hst))) (fun z => hk _ _ _ _ (h.2 z) H locs lsA hw hS hL hLo (sw_ot (sw_ot hst)))
      · exact lv_icmp_ge hx hb hd ht (fun z => hk _ _ _ _ (h.1 z) H locs lsA hw hS hL hLo (sw_ot (sw_ot hst))) (fun z => hk _ _ _ _ (h.2 z) H locs lsA hw hS hL hLo (sw_ot (sw_ot hst)))
      · exact lv_icmp_gt hx hb hd ht (fun z => hk _ _ _ _ (h.1 z) H locs lsA hw hS hL hLo (sw_ot (sw_ot hst))) (fun z => hk _ _ _ _ (h.2 z) H locs lsA hw hS hL hLo (sw_ot (sw_ot hst)))
      · exact lv_icmp_le hx hb hd ht (fun z => hk _ _ _ _ (h.1 z) H locs lsA hw hS hL hLo (sw_ot (sw_ot hst))) (fun z => hk _ _ _ _ (h.2 z) H locs lsA hw hS hL hLo (sw_ot (sw_ot hst)))
    all_goals exact False.elim h
  case ifnull off =>
    obtain ⟨hn, h0⟩ := sw_ln_st h
    clear h
    subst hn
    have h := h0
    clear h0
    obtain ⟨t, ht, h⟩ := sw_tg_st h
    rcases st with _ | ⟨x | _ | q, st⟩
    · exact False.elim h
    · exact False.elim h
    · exact lv_ifnullN hx hb hd ht (hk _ _ _ _ h H locs lsA hw hS hL hLo (sw_ot hst))
    · exact lv_ifnull hx hb hd (hk _ _ _ _ h H locs lsA hw hS hL hLo (sw_ot hst))
  case ifnonnull off =>
    obtain ⟨hn, h0⟩ := sw_ln_st h
    clear h
    subst hn
    have h := h0
    clear h0
    obtain ⟨t, ht, h⟩ := sw_tg_st h
    rcases st with _ | ⟨x | _ | q, st⟩
    · exact False.elim h
    · exact False.elim h
    · exact lv_ifnonnullN hx hb hd (hk _ _ _ _ h H locs lsA hw hS hL hLo (sw_ot hst))
    · exact lv_ifnonnull hx hb hd ht (hk _ _ _ _ h H locs lsA hw hS hL hLo (sw_ot hst))
  case goto off =>
    obtain ⟨hn, h0⟩ := sw_ln_st h
    clear h
    subst hn
    have h := h0
    clear h0
    obtain ⟨t, ht, h⟩ := sw_tg_st h
    exact lv_goto hx hb hd ht (hk _ _ _ _ h H locs lsA hw hS hL hLo hst)
  case tableswitch d lo hi offs =>
    obtain ⟨hc, h⟩ := sw_if_st h
    obtain ⟨t, ht, h⟩ := sw_tg_st h
    rcases st with _ | ⟨x | r, st⟩
    · exact False.elim h
    · replace h : sw_sw x t (fun t => K t L st σ) TS := h
      simp only [sw_tsk, Bool.and_eq_true, decide_eq_true_eq] at hc
      obtain ⟨⟨⟨c1, c2⟩, c3⟩, c4⟩ := hc
      have key : ∀ (i : Nat) (q : Int32 × Nat), TS[i]? = some q → q.1.toInt = lo + (i : Int) := by
        intro i q hq
        have e1 : (TS.map (fun q => q.1.toInt))[i]? = some q.1.toInt := by rw [List.getElem?_map, hq]; rfl
        rw [c3, List.getElem?_map] at e1
        have hi : i < offs.toList.length := by rw [← c1]; exact (List.getElem?_eq_some_iff.mp hq).1
        rw [List.getElem?_range hi] at e1
        exact (Option.some.inj e1).symm
      by_cases hr1 : x.toInt < lo ∨ hi < x.toInt
      · refine lv_tableOut hx hb hd hr1 ht (hk _ _ _ _ (sw_sw_no h fun j q' hq' z => ?_) H locs lsA hw hS hL hLo (sw_ot hst))
        have hj := key j q' hq'
        have hlt : j < offs.toList.length := by rw [← c1]; exact (List.getElem?_eq_some_iff.mp hq').1
        rw [z] at hj
        omega
      · have h1 : ¬ x.toInt < lo := fun z => hr1 (Or.inl z)
        have h2 : ¬ hi < x.toInt := fun z => hr1 (Or.inr z)
        have hi : (x.toInt - lo).toNat < offs.toList.length := by omega
        have hi2 : (x.toInt - lo).toNat < TS.length := by rw [c1]; exact hi
        obtain ⟨q, hq⟩ : ∃ q, TS[(x.toInt - lo).toNat]? = some q := ⟨_, List.getElem?_eq_getElem hi2⟩
        obtain ⟨o, ho⟩ : ∃ o, offs.toList[(x.toInt - lo).toNat]? = some o := ⟨_, List.getElem?_eq_getElem hi⟩
        have e1 : (offs.toList.map (fun o => (pc : Int) + o))[(x.toInt - lo).toNat]? = some ((pc : Int) + o) := by rw [List.getElem?_map, ho]; rfl
        rw [c4, List.getElem?_map, hq] at e1
        have e2 : (pc : Int) + o = (q.2 : Int) := (Option.some.inj e1).symm
        have hqx : q.1 = x := Int32.toInt_inj.mp (by rw [key _ q hq]; omega)
        refine lv_tableIn hx hb hd h1 h2 (by rw [← Array.getElem?_toList]; exact ho) e2 (hk _ _ _ _ (sw_sw_at h _ q hq hqx fun j q' hj hq' z => ?_) H locs lsA hw hS hL hLo (sw_ot hst))
        have := key j q' hq'
        rw [z] at this
        omega
    · exact False.elim h
  case lookupswitch d ps =>
    obtain ⟨hc, h⟩ := sw_if_st h
    obtain ⟨t, ht, h⟩ := sw_tg_st h
    rcases st with _ | ⟨x | r, st⟩
    · exact False.elim h
    · replace h : sw_sw x t (fun t => K t L st σ) TS := h
      simp only [sw_lsk, Bool.and_eq_true, decide_eq_true_eq] at hc
      obtain ⟨u, hu, h⟩ := sw_sw_look ht h
      rw [← hc.1] at hu
      exact lv_lookup hx hb hd hc.2 rfl hu (hk _ _ _ _ h H locs lsA hw hS hL hLo (sw_ot hst))
    · exact False.elim h
  case dup =>
    obtain ⟨hn, h0⟩ := sw_ln_st h
    clear h
    subst hn
    have h := h0
    clear h0
    rcases st with _ | ⟨x, st⟩
    · exact False.elim h
    · exact lv_dup hx hb hd (sw_em_cat ad x) (hk _ _ _ _ h H locs lsA hw hS hL hLo (sw_oc (sw_oh hst) hst))
  case dup2 =>
    obtain ⟨hn, h0⟩ := sw_ln_st h
    clear h
    subst hn
    have h := h0
    clear h0
    rcases st with _ | ⟨x, _ | ⟨y, st⟩⟩
    · exact False.elim h
    · exact False.elim h
    · exact lv_dup2_11 hx hb hd (sw_em_cat ad x) (sw_em_cat ad y) (hk _ _ _ _ h H locs lsA hw hS hL hLo (sw_oc (sw_oh hst) (sw_oc (sw_oh (sw_ot hst)) hst)))
  case pop =>
    obtain ⟨hn, h0⟩ := sw_ln_st h
    clear h
    subst hn
    have h := h0
    clear h0
    rcases st with _ | ⟨x, st⟩
    · exact False.elim h
    · exact lv_pop hx hb hd (sw_em_cat ad x) (hk _ _ _ _ h H locs lsA hw hS hL hLo (sw_ot hst))
  case aconst_null =>
    obtain ⟨hn, h0⟩ := sw_ln_st h
    clear h
    subst hn
    have h := h0
    clear h0
    exact lv_null hx hb hd (hk _ _ _ _ h H locs lsA hw hS hL hLo (sw_oc trivial hst))
  case ireturn =>
    obtain ⟨hn, h0⟩ := sw_ln_st h
    clear h
    subst hn
    have h := h0
    clear h0
    rcases st with _ | ⟨x | r, _ | ⟨y, st⟩⟩
    · exact False.elim h
    · match rt, hrt, h with
      | 0, hrt, h => exact False.elim h
      | 1, hrt, h =>
        have hr1 : meth.sig.returnType = some .int := hr.trans (hrt.2.1 rfl)
        exact W.zret hx hb hr1 rfl (fun t ht hW => hQ (some (.inl x)) σ H locs h (fun v hv => by cases hv; trivial) hw hS t ht hW) hS.2.2 hd
      | 2, hrt, h =>
        have hr1 : meth.sig.returnType = some .boolean := hr.trans (hrt.2.2.1 rfl)
        exact W.zret hx hb hr1 (by rcases h.1 with rfl | rfl <;> rfl) (fun t ht hW => hQ (some (.inl x)) σ H locs h.2 (fun v hv => by cases hv; trivial) hw hS t ht hW) hS.2.2 hd
      | n + 3, hrt, h => exact False.elim h
    all_goals exact False.elim h
  case areturn =>
    obtain ⟨hn, h0⟩ := sw_ln_st h
    clear h
    subst hn
    have h := h0
    clear h0
    rcases st with _ | ⟨x | r, _ | ⟨y, st⟩⟩
    · exact False.elim h
    · exact False.elim h
    · exact False.elim h
    · match rt, hrt, h with
      | 0, hrt, h => exact False.elim h
      | 1, hrt, h => exact False.elim h
      | 2, hrt, h => exact False.elim h
      | 3, hrt, h =>
        obtain ⟨nm, hnm⟩ := hrt.2.2.2 rfl
        exact W.aret (v := sw_em ad (.inr r)) hx hb (hr.trans hnm) (Or.inl ⟨nm, rfl⟩) (sw_em_r ad r) (fun t ht hW => hQ (some (.inr r)) σ H locs h (fun v hv => by cases hv; exact sw_oh hst) hw hS t ht hW) hS.2.2 hd
      | n + 4, hrt, h => exact False.elim h
    · exact False.elim h
  case return_ =>
    obtain ⟨hn, h0⟩ := sw_ln_st h
    clear h
    subst hn
    have h := h0
    clear h0
    rcases st with _ | ⟨x, st⟩
    · match rt, hrt, h with
      | 0, hrt, h =>
        have hr1 : meth.sig.returnType = none := hr.trans (hrt.1 rfl)
        exact W.vret hx hb hr1 (fun t ht hW => hQ none σ H locs h (fun v hv => by cases hv) hw hS t ht hW) hS.2.2 hd
      | n + 1, hrt, h => exact False.elim h
    · exact False.elim h
  case invokevirtual idx =>
    obtain ⟨hn, h0⟩ := sw_ln_st h
    clear h
    subst hn
    have h := h0
    clear h0
    replace h : (match sw_lk CT idx with
      | some (n, md, f) => (match sw_tk n st [] with
        | some (avs, st') => bif sw_rc md 0 avs && Nat.ble st'.length 8 then ((f avs σ).1 ∧ K (pc + 3) L ((f avs σ).2.1.toList ++ st') (f avs σ).2.2) else False
        | none => False)
      | none => False) := h
    cases hq : sw_lk CT idx with
    | none => rw [hq] at h; exact h.elim
    | some q =>
      obtain ⟨n, md, f⟩ := q
      rw [hq] at h
      replace h : (match sw_tk n st [] with
        | some (avs, st') => bif sw_rc md 0 avs && Nat.ble st'.length 8 then ((f avs σ).1 ∧ K (pc + 3) L ((f avs σ).2.1.toList ++ st') (f avs σ).2.2) else False
        | none => False) := h
      cases htk : sw_tk n st [] with
      | none => rw [htk] at h; exact h.elim
      | some q2 =>
        obtain ⟨avs, st'⟩ := q2
        rw [htk] at h
        obtain ⟨hrc, hf, h9⟩ := sw_bif h
        clear h
        rw [Bool.and_eq_true] at hrc
        obtain ⟨hrc, h8⟩ := hrc
        obtain ⟨-, hlen, pre, e1, e2⟩ := sw_tk_of htk
        rw [List.append_nil] at e2
        have e3 : pre = avs.reverse := by rw [e2, List.reverse_reverse]
        subst e1
        have hva : ∀ v ∈ avs, sw_ov V v := fun v hv => hst v (List.mem_append_left _ (by rw [e3]; exact List.mem_reverse.mpr hv))
        have hvr : ∀ v ∈ st', sw_ov V v := fun v hv => hst v (List.mem_append_right _ hv)
        have hc := hct _ (sw_lk_in hq) (MQ below Qc args s 0 0 (sw_ad ad V)) pc H locs lsA avs (st'.map (sw_em ad)) σ (sw_rc_of0 hrc hd) hlen hva hw hS hf (by rw [sw_cats]; exact Nat.le_of_ble_eq_true h8) hL.1 (fun H1 locs1 hw1 hS1 hv1 => by
          have := hk _ _ _ _ h9 H1 locs1 lsA hw1 hS1 hL hLo (fun v hv => by
            rcases List.mem_append.mp hv with z | z
            · exact hv1 v (by simpa using z)
            · exact hvr v z)
          rw [List.map_append] at this
          exact this)
        rw [List.map_append, e3, List.map_reverse]
        exact hc
  case invokestatic idx =>
    obtain ⟨hn, h0⟩ := sw_ln_st h
    clear h
    subst hn
    have h := h0
    clear h0
    replace h : (match sw_lk CT idx with
      | some (n, md, f) => (match sw_tk n st [] with
        | some (avs, st') => bif sw_rc md 1 avs && Nat.ble st'.length 8 then ((f avs σ).1 ∧ K (pc + 3) L ((f avs σ).2.1.toList ++ st') (f avs σ).2.2) else False
        | none => False)
      | none => False) := h
    cases hq : sw_lk CT idx with
    | none => rw [hq] at h; exact h.elim
    | some q =>
      obtain ⟨n, md, f⟩ := q
      rw [hq] at h
      replace h : (match sw_tk n st [] with
        | some (avs, st') => bif sw_rc md 1 avs && Nat.ble st'.length 8 then ((f avs σ).1 ∧ K (pc + 3) L ((f avs σ).2.1.toList ++ st') (f avs σ).2.2) else False
        | none => False) := h
      cases htk : sw_tk n st [] with
      | none => rw [htk] at h; exact h.elim
      | some q2 =>
        obtain ⟨avs, st'⟩ := q2
        rw [htk] at h
        obtain ⟨hrc, hf, h9⟩ := sw_bif h
        clear h
        rw [Bool.and_eq_true] at hrc
        obtain ⟨hrc, h8⟩ := hrc
        obtain ⟨-, hlen, pre, e1, e2⟩ := sw_tk_of htk
        rw [List.append_nil] at e2
        have e3 : pre = avs.reverse := by rw [e2, List.reverse_reverse]
        subst e1
        have hva : ∀ v ∈ avs, sw_ov V v := fun v hv => hst v (List.mem_append_left _ (by rw [e3]; exact List.mem_reverse.mpr hv))
        have hvr : ∀ v ∈ st', sw_ov V v := fun v hv => hst v (List.mem_append_right _ hv)
        have hc := hct _ (sw_lk_in hq) (MQ below Qc args s 0 0 (sw_ad ad V)) pc H locs lsA avs (st'.map (sw_em ad)) σ (sw_rc_of1 hrc hd) hlen hva hw hS hf (by rw [sw_cats]; exact Nat.le_of_ble_eq_true h8) hL.1 (fun H1 locs1 hw1 hS1 hv1 => by
          have := hk _ _ _ _ h9 H1 locs1 lsA hw1 hS1 hL hLo (fun v hv => by
            rcases List.mem_append.mp hv with z | z
            · exact hv1 v (by simpa using z)
            · exact hvr v z)
          rw [List.map_append] at this
          exact this)
        rw [List.map_append, e3, List.map_reverse]
        exact hc
  all_goals exact False.elim h
end swStep2
