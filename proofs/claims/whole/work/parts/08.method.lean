/-! A method out of its code: the check of the table, the run, the contract, the calls -/
def sw_chk (cc : ByteArray) (fl : List (Nat × Nat × Nat)) (cn : List (Nat × Int32)) (TS : sw_T) (N : Nat) (tree : Nat → sw_I) : Bool :=
  (List.range (N + 1)).all (fun pc => Nat.beq (tree pc).1 99 || (match decode cc pc with
    | .ok q => decide (sw_ec fl cn (TS pc) pc q.2 q.1 = tree pc)
    | _ => false))
theorem sw_chk_ok {cc : ByteArray} {fl : List (Nat × Nat × Nat)} {cn : List (Nat × Int32)} {TS : sw_T} {N : Nat} {tree : Nat → sw_I} (h : sw_chk cc fl cn TS N tree = true) (pc : Nat) : (sw_tab N tree pc).1 = 99 ∨ ∃ ins n, decode cc pc = .ok (ins, n) ∧ sw_ec fl cn (TS pc) pc n ins = sw_tab N tree pc := by
  unfold sw_tab
  cases hb : Nat.ble pc N with
  | false => exact Or.inl rfl
  | true =>
    rw [cond_true]
    have h1 := List.all_eq_true.mp h pc (List.mem_range.mpr (Nat.lt_succ_of_le (Nat.le_of_ble_eq_true hb)))
    rw [Bool.or_eq_true] at h1
    rcases h1 with h1 | h1
    · exact Or.inl (Nat.eq_of_beq_eq_true h1)
    · right
      cases hd : decode cc pc with
      | error z => rw [hd] at h1; cases h1
      | ok q =>
        rw [hd] at h1
        exact ⟨q.1, q.2, rfl, of_decide_eq_true h1⟩
def sw_ent : Nat → List sw_V → sw_L
  | 0, _ => []
  | n + 1, [] => none :: sw_ent n []
  | n + 1, v :: avs => some v :: sw_ent n avs
theorem sw_ent_len : ∀ (n : Nat) (avs : List sw_V), (sw_ent n avs).length = n
  | 0, _ => rfl
  | n + 1, [] => congrArg Nat.succ (sw_ent_len n [])
  | n + 1, _ :: avs => congrArg Nat.succ (sw_ent_len n avs)
theorem sw_ent_get : ∀ (n : Nat) (avs : List sw_V) (i : Nat) (v : sw_V), sw_get (sw_ent n avs) i = some v → avs[i]? = some v
  | 0, _, _, _, h => by cases h
  | n + 1, [], 0, _, h => by cases h
  | n + 1, [], i + 1, v, h => by
    have := sw_ent_get n [] i v h
    simp at this
  | n + 1, w :: avs, 0, v, h => by cases h; rfl
  | n + 1, w :: avs, i + 1, v, h => sw_ent_get n avs i v h
theorem sw_args_in (ad : sw_A) : ∀ (avs : List sw_V) (i0 i : Nat) (v : sw_V), avs[i]? = some v → (i0 + i, sw_em ad v) ∈ lv_args i0 (avs.map (sw_em ad))
  | [], _, _, _, h => by simp at h
  | w :: avs, i0, 0, v, h => by
    cases h
    exact List.mem_cons_self
  | w :: avs, i0, i + 1, v, h => by
    have h1 := sw_args_in ad avs (i0 + 1) i v h
    rw [List.map_cons]
    refine List.mem_cons_of_mem _ ?_
    rw [if_neg (by rw [sw_em_cat]; decide), show i0 + (i + 1) = i0 + 1 + i by omega]
    exact h1
theorem sw_sl_len (ad : sw_A) : ∀ avs : List sw_V, (lg_sl (avs.map (sw_em ad))).length = avs.length
  | [] => rfl
  | v :: avs => by
    have h := sw_sl_len ad avs
    unfold lg_sl at h ⊢
    rw [List.map_cons, List.flatMap_cons, if_neg (by rw [sw_em_cat]; decide), List.length_append, h, List.length_cons, List.length_cons, List.length_nil]
    omega
def sw_nw (U : State) : Prop := va_Nw (.methodLinkNest RX1 102 yX7_bit RX7) U ∧ va_Nw (.methodLinkNest RX6 286 yX7_bit RX7) U
def sw_Pw (ad : sw_A) (V : Nat → Nat → Prop) (rf : sw_R) (ln : sw_A) (ca : Nat → ClassId) (D : va_G) (σ : sw_S) (U : State) : Prop := sw_w ad V rf ln ca D σ U.heap ∧ va_K D vwCl (sw_ty ca) U ∧ sw_nw U
def sw_Qc (ad : sw_A) (V : Nat → Nat → Prop) (rf : sw_R) (ln : sw_A) (ca : Nat → ClassId) (D : va_G) (r : Option sw_V) (σ : sw_S) : Array Value → State → Outcome → State → Prop := fun _ st o t =>
  o = .returned (r.map (sw_em ad)) ∧ sw_w ad V rf ln ca D σ t.heap ∧ (∀ v, r = some v → sw_ov V v) ∧ va_F (sw_ad ad V) st t
def sw_met (l : Launch) (ad : sw_A) (V : Nat → Nat → Prop) (rf : sw_R) (ln : sw_A) (ca : Nat → ClassId) (D : va_G) (y : MethodName) (cc : ByteArray) (maxL : Nat) (ret : Option FieldType) (rm : Room) (n : Nat) (f : sw_F) : Prop :=
  ∀ (avs : List sw_V) (σ : sw_S), avs.length = n → (∀ v ∈ avs, sw_ov V v) → (f avs σ).1 → Met l y (Cond.code y cc maxL ret :: sw_tbl) rm (va_Pc (avs.map (sw_em ad)) (sw_Pw ad V rf ln ca D σ)) (sw_Qc ad V rf ln ca D (f avs σ).2.1 (f avs σ).2.2) 0 0 (sw_ad ad V)
theorem sw_nw.same {u U : State} (h : u.vm = U.vm) (hn : sw_nw u) : sw_nw U := ⟨va_Nw.same rfl h hn.1, va_Nw.same rfl h hn.2⟩
theorem sw_nw.warm {s U : State} (hW : s.WarmedH U.vm) (hn : sw_nw s) : sw_nw U := ⟨va_Nw.warmM hW hn.1, va_Nw.warmM hW hn.2⟩
section swMeth
variable {l : Launch} {ad : sw_A} {V : Nat → Nat → Prop} {rf : sw_R} {ln : sw_A} {ca : Nat → ClassId} {D : va_G}
theorem sw_meth (hG : sw_wf ad V rf ln) {y : MethodName} {cc : ByteArray} {maxL n rt N : Nat} {ret : Option FieldType} {rm : Room} {tree : Nat → sw_I} {fl : List (Nat × Nat × Nat)} {cn : List (Nat × Int32)} {TS : sw_T} {CT : sw_C} {f : sw_F} (hy : plainName y.cls = true) (hrt : sw_rt rt ret) (hnL : n ≤ maxL)
    (hchk : sw_chk cc fl cn TS N tree = true)
    (hfl : ∀ q ∈ fl, Cond.fieldLink y.cls q.1 ((sw_cl q.2.1).2.1 q.2.2).1 ((sw_cl q.2.1).2.1 q.2.2).2.1 ((sw_cl q.2.1).2.1 q.2.2).2.2.1 ∈ sw_tbl) (hcn : ∀ q ∈ cn, Jvm.Cond.constant y.cls q.1 q.2 ∈ sw_tbl)
    (hct : ∀ (p : Program) (e : Env) (s : State) (m : MethodId) (args : Array Value) (below : List Frame) (meth : Method) (c : Code), CallFix p m c cc maxL s args sw_tbl y.cls → va_K D vwCl (sw_ty ca) s → sw_nw s → ∀ q ∈ CT, sw_cok p l e rm s m args below meth c ad V rf ln ca D cc maxL q)
    (hwp : ∀ (avs : List sw_V) (σ : sw_S), avs.length = n → (f avs σ).1 → ∃ fuel, sw_wp rf ln CT TS rt N tree (fun r σ' => r = (f avs σ).2.1 ∧ σ' = (f avs σ).2.2) fuel 0 (sw_ent maxL avs) [] σ) :
    sw_met l ad V rf ln ca D y cc maxL ret rm n f := by
  intro avs σ hlen hva hf
  obtain ⟨fuel, hw0⟩ := hwp avs σ hlen hf
  refine Met.ofW (cc := cc) (maxL := maxL) (ret := ret) hy rfl ?_
  intro p e s m args below meth c s₁ B hml hv
  obtain ⟨rfl, hw, hT, hnw⟩ := hv
  have hx := B.exec
  have hb := B.bytes
  have hr := B.returns
  have hts0 := atoms_spec (ws := Cond.code y cc maxL ret :: sw_tbl) B.pre
  have hts : ∀ w ∈ sw_tbl, w.before (avs.map (sw_em ad)).toArray s = true := fun w h => hts0 w (List.mem_cons_of_mem _ h)
  have hown : s.vm.findClass y.cls = some m.cls := findClass_of_methodNamed B.named
  have hlocks := B.notSynchronized
  have hS : va_S (sw_ad ad V) s.heap s.heap [] := va_S.rf
  have hrun : ∀ (k pc : Nat) (L : sw_L) (st : List sw_V) (σ0 : sw_S), sw_wp rf ln CT TS rt N tree (fun r σ' => r = (f avs σ).2.1 ∧ σ' = (f avs σ).2.2) k pc L st σ0 → sw_at p l e rm s m (avs.map (sw_em ad)).toArray below meth c ad V rf ln ca D maxL (sw_Qc ad V rf ln ca D (f avs σ).2.1 (f avs σ).2.2) pc L st σ0 := by
    intro k
    induction k with
    | zero => intro pc L st σ0 h; exact False.elim h
    | succ k ih =>
      intro pc L st σ0 h
      rcases sw_chk_ok hchk pc with h99 | ⟨ins, nn, hd, hec⟩
      · replace h : sw_st rf ln CT (TS pc) rt _ (sw_wp rf ln CT TS rt N tree _ k) (sw_tab N tree pc) L st σ0 := h
        generalize sw_tab N tree pc = i at h h99
        obtain ⟨i1, i2, i3, i4, i5⟩ := i
        subst h99
        exact False.elim h
      · replace h : sw_st rf ln CT (TS pc) rt _ (sw_wp rf ln CT TS rt N tree _ k) (sw_tab N tree pc) L st σ0 := h
        rw [← hec] at h
        refine sw_step hx hb hml hr hrt hlocks hown hts hT hG hfl hcn (hct p e s m _ below meth c ⟨hx, hb, hml, hown, hts⟩ hT hnw) ?_ hd h ih
        intro r σ' H locs hq hov hwq hSq t ht hW
        obtain ⟨rfl, rfl⟩ := hq
        exact ⟨rfl, by rw [ht]; exact hwq, hov, hSq.F ht⟩
  have hl := lv_entry (avs.map (sw_em ad)) (n := maxL) (by rw [sw_sl_len, hlen]; exact hnL)
  rw [lg_entry_eq]
  generalize (lg_sl (avs.map (sw_em ad)) ++ List.replicate (maxL - (lg_sl (avs.map (sw_em ad))).length) Slot.unset).toArray = ls at hl ⊢
  refine hrun fuel 0 (sw_ent maxL avs) [] σ hw0 s.heap [] ls hw hS ⟨hl.1, hl.2.1, sw_ent_len _ _, fun i v hi => ?_⟩ (fun i v hi => hva v (List.mem_of_getElem? (sw_ent_get _ _ _ _ hi))) (fun v hv => by cases hv)
  have := sw_args_in ad avs 0 i v (sw_ent_get _ _ _ _ hi)
  rw [Nat.zero_add] at this
  exact hl.2.2 _ this
/-- what a call leaves: the caller goes on -/
theorem sw_call {p : Program} {e : Env} {R : Room} {s : State} {m : MethodId} {args : Array Value} {below : List Frame} {meth : Method} {c : Code} {H : Heap} {locs : List Loc} {Qw : State → Prop} {pc : Nat} {ls : Array Slot} {st0 rest : List Value} {r : Option sw_V} {σ : sw_S} {a : Array Value}
    (hr : va_Run p l e R s m args below meth c H locs 0 0 0 0 (F0 m pc ls st0) rest (sw_Qc ad V rf ln ca D r σ a) (sw_ad ad V)) (hS : va_S (sw_ad ad V) s.heap H locs)
    (kk : ∀ (H1 : Heap) (locs1 : List Loc), sw_w ad V rf ln ca D σ H1 → va_S (sw_ad ad V) s.heap H1 locs1 → (∀ v, r = some v → sw_ov V v) → W p l e R s m args below meth c H1 locs1 0 0 Qw (F0 m (pc + 3) ls ((r.toList).map (sw_em ad) ++ rest))) : W p l e R s m args below meth c H locs 0 0 Qw (F0 m pc ls st0) := by
  intro T hT X
  obtain ⟨v, st₀, t, T', L, h0, X', hL, e1, e2, ⟨hv, hw, hov, hz, hk⟩, st⟩ := hr T hT X
  cases hv
  rw [h0] at hz hk
  obtain ⟨t2, a1, b1⟩ := kk T'.heap (locs ++ L) (by rw [e1]; exact hw) ⟨Nat.le_trans hS.1 (by rw [e1]; exact hz), fun q h1 h2 => by rw [e1, hk q (Nat.lt_of_lt_of_le h1 hS.1) h2]; exact hS.2.1 q h1 h2, fun q hq => by
      rcases List.mem_append.mp hq with h | h
      · exact hS.2.2 q h
      · exact hL q h⟩ hov T' rfl X'
  refine ⟨t2, st t2 ?_, b1⟩
  have e3 : (Option.map (sw_em ad) r).toList = (r.toList).map (sw_em ad) := by cases r <;> rfl
  rw [e3]
  exact a1
theorem sw_blind {avs : List sw_V} {σ : sw_S} : FrameBlind (va_Pc (avs.map (sw_em ad)) (sw_Pw ad V rf ln ca D σ)) := fun a U g mk q => by
  obtain ⟨q0, q1, q2, q3⟩ := q
  exact ⟨q0, q1, va_K.moved (u := U) (U := U.calling g mk a) (Vm.Alike.refl U.vm) q2, sw_nw.same (u := U) (U := U.calling g mk a) rfl q3⟩
theorem sw_cokV {p : Program} {e : Env} {R : Room} {s : State} {m : MethodId} {args : Array Value} {below : List Frame} {meth : Method} {c : Code} {cc : ByteArray} {nL : Nat} {own : String} (S : CallFix p m c cc nL s args sw_tbl own) (hT : va_K D vwCl (sw_ty ca) s) (hnw : sw_nw s)
    {y : MethodName} {cc' : ByteArray} {maxL' n : Nat} {ret' : Option FieldType} {rm' : Room} {f : sw_F} (M : sw_met l ad V rf ln ca D y cc' maxL' ret' rm' (n + 1) f) (idx c0 : Nat) (h9 : c0 < 9)
    (hw : Cond.methodLink own idx y ∈ sw_tbl ∧ Cond.instanceMethod y ∈ sw_tbl ∧ Cond.selects y.cls y y ∈ sw_tbl ∧ Cond.initialized y.cls ∈ sw_tbl ∧ Cond.code y cc' maxL' ret' ∈ sw_tbl)
    (hd : y.cls = (sw_cl c0).1 ∧ y.cls ≠ "java/lang/invoke/MethodHandle" ∧ y.cls ≠ "java/lang/invoke/VarHandle" ∧ (parseMethodDescriptor y.desc).map (fun d => d.parameters.length) = some n) (hrc : rm'.cells = 0 ∧ rm'.slots = 0) (hR : rm'.frames + 1 ≤ R.frames ∧ 8 + (maxL' + 11) + rm'.locals ≤ R.locals) :
    sw_cok p l e R s m args below meth c ad V rf ln ca D cc nL (idx, n + 1, c0 + 1, f) := by
  intro Qw pc H locs lsA avs rest σ hdec hlen hva hwσ hS hf h8 hsz kk
  rcases hdec with ⟨h0, -⟩ | ⟨c1, k, tl, h0, rfl, hdg⟩
  · cases h0
  · cases h0
    have hV : V c0 k := sw_oh hva
    have hrec := va_recv hT (hwσ.one hV rfl) (ci := c0) (q := sw_cl c0) (q0 := 0) (fs := match sw_lay c0 with
      | .inl ds => sw_fs ad rf c0 k (σ c0 k) ds 0
      | _ => []) (sw_cl_at h9) (by
        have : ∃ ds, sw_lay c0 = .inl ds := sw_9 (P := fun c0 => ∃ ds, sw_lay c0 = .inl ds) ⟨_, rfl⟩ ⟨_, rfl⟩ ⟨_, rfl⟩ ⟨_, rfl⟩ ⟨_, rfl⟩ ⟨_, rfl⟩ ⟨_, rfl⟩ ⟨_, rfl⟩ ⟨_, rfl⟩ h9
        obtain ⟨ds, hds⟩ := this
        rw [sw_en_o hds, hds]
        rfl)
    rw [← hd.1] at hrec
    have hrun := va_runV (e := e) (below := below) (meth := meth) (R := R) (locs := locs) (As := tl.map (sw_em ad)) (rest := rest) (g := F0 m pc lsA ((((.inr (some (c0, k)) :: tl : List sw_V)).map (sw_em ad)).reverse ++ rest)) S (M _ σ hlen hva hf)
      (cwV n S.2.2.2.2 (fun w hw2 => by
        rcases List.mem_append.mp hw2 with h | h
        · simp only [List.mem_cons, List.not_mem_nil, or_false] at h
          rcases h with rfl | rfl | rfl | rfl
          · exact sw_tbl_good _ hw.1
          · exact sw_tbl_good _ hw.2.1
          · exact sw_tbl_good _ hw.2.2.1
          · exact sw_tbl_good _ hw.2.2.2.1
        · exact sw_good_cons hw.2.2.2.2 _ h) rfl hrc.1 hrc.2 ⟨rfl, hd.2⟩ hR)
      ⟨sw_blind, hrec, fun U hU hW => ⟨rfl, by rw [hU]; exact hwσ, va_K.moved hW.alike hT, sw_nw.warm hW hnw⟩⟩ rfl (by rw [List.length_map]; exact Nat.succ.inj hlen) hsz (by simp [sw_em]) (lv_room h8) hdg ⟨Nat.zero_le _, Nat.zero_le _⟩
    exact sw_call hrun hS kk
theorem sw_cokS {p : Program} {e : Env} {R : Room} {s : State} {m : MethodId} {args : Array Value} {below : List Frame} {meth : Method} {c : Code} {cc : ByteArray} {nL : Nat} {own : String} (S : CallFix p m c cc nL s args sw_tbl own) (hT : va_K D vwCl (sw_ty ca) s) (hnw : sw_nw s)
    {y : MethodName} {cc' : ByteArray} {maxL' n : Nat} {ret' : Option FieldType} {rm' : Room} {f : sw_F} (M : sw_met l ad V rf ln ca D y cc' maxL' ret' rm' n f) (idx : Nat)
    (hw : Cond.methodLink own idx y ∈ sw_tbl ∧ Cond.static y ∈ sw_tbl ∧ Cond.initialized own ∈ sw_tbl ∧ Cond.code y cc' maxL' ret' ∈ sw_tbl)
    (hd : y.cls = own ∧ y.cls ≠ "java/lang/invoke/MethodHandle" ∧ y.cls ≠ "java/lang/invoke/VarHandle" ∧ (parseMethodDescriptor y.desc).map (fun d => d.parameters.length) = some n) (hrc : rm'.cells = 0 ∧ rm'.slots = 0) (hR : rm'.frames + 1 ≤ R.frames ∧ 8 + (maxL' + 11) + rm'.locals ≤ R.locals) :
    sw_cok p l e R s m args below meth c ad V rf ln ca D cc nL (idx, n, 0, f) := by
  intro Qw pc H locs lsA avs rest σ hdec hlen hva hwσ hS hf h8 hsz kk
  rcases hdec with ⟨-, hdg⟩ | ⟨c1, k, tl, h0, -, -⟩
  · have hrun := va_runS (e := e) (below := below) (meth := meth) (R := R) (locs := locs) (As := avs.map (sw_em ad)) (rest := rest) (g := F0 m pc lsA ((avs.map (sw_em ad)).reverse ++ rest)) S (M _ σ hlen hva hf)
      (cwS n S.2.2.2.2 (fun w hw2 => by
        rcases List.mem_append.mp hw2 with h | h
        · simp only [List.mem_cons, List.not_mem_nil, or_false] at h
          rcases h with rfl | rfl | rfl
          · exact sw_tbl_good _ hw.1
          · exact sw_tbl_good _ hw.2.1
          · exact sw_tbl_good _ hw.2.2.1
        · exact sw_good_cons hw.2.2.2 _ h) rfl hrc.1 hrc.2 hd hR)
      ⟨sw_blind, fun U hU hW => ⟨rfl, by rw [hU]; exact hwσ, va_K.moved hW.alike hT, sw_nw.warm hW hnw⟩⟩ rfl (by rw [List.length_map]; exact hlen) hsz rfl (lv_room h8) hdg ⟨Nat.zero_le _, Nat.zero_le _⟩
    exact sw_call hrun hS kk
  · cases h0
theorem sw_cokN {p : Program} {e : Env} {R : Room} {s : State} {m : MethodId} {args : Array Value} {below : List Frame} {meth : Method} {c : Code} {cc : ByteArray} {nL : Nat} {own host : String} (S : CallFix p m c cc nL s args sw_tbl own) (hT : va_K D vwCl (sw_ty ca) s) (hnw : sw_nw s)
    {y : MethodName} {cc' : ByteArray} {maxL' n : Nat} {ret' : Option FieldType} {rm' : Room} {f : sw_F} (M : sw_met l ad V rf ln ca D y cc' maxL' ret' rm' n f) (idx : Nat) (hl : va_Nw (.methodLinkNest own idx y host) s)
    (hw : Cond.static y ∈ sw_tbl ∧ Cond.initialized y.cls ∈ sw_tbl ∧ Cond.code y cc' maxL' ret' ∈ sw_tbl)
    (hd : y.cls ≠ "java/lang/invoke/MethodHandle" ∧ y.cls ≠ "java/lang/invoke/VarHandle" ∧ (parseMethodDescriptor y.desc).map (fun d => d.parameters.length) = some n) (hrc : rm'.cells = 0 ∧ rm'.slots = 0) (hR : rm'.frames + 1 ≤ R.frames ∧ 8 + (maxL' + 11) + rm'.locals ≤ R.locals) :
    sw_cok p l e R s m args below meth c ad V rf ln ca D cc nL (idx, n, 0, f) := by
  intro Qw pc H locs lsA avs rest σ hdec hlen hva hwσ hS hf h8 hsz kk
  rcases hdec with ⟨-, hdg⟩ | ⟨c1, k, tl, h0, -, -⟩
  · have hrun := va_runSN (e := e) (below := below) (meth := meth) (R := R) (locs := locs) (As := avs.map (sw_em ad)) (rest := rest) (g := F0 m pc lsA ((avs.map (sw_em ad)).reverse ++ rest)) S (M _ σ hlen hva hf)
      ⟨va_cnB n S.2.2.2.2 (sw_good_cons hw.2.2) rfl hrc.1 hrc.2 hl (S.2.2.2.2 _ hw.2.1) hd hR, S.2.2.2.2 _ hw.1, trivial⟩
      ⟨sw_blind, fun U hU hW => ⟨rfl, by rw [hU]; exact hwσ, va_K.moved hW.alike hT, sw_nw.warm hW hnw⟩⟩ rfl (by rw [List.length_map]; exact hlen) hsz rfl (lv_room h8) hdg ⟨Nat.zero_le _, Nat.zero_le _⟩
    exact sw_call hrun hS kk
  · cases h0
def sw_max : sw_F := fun avs σ => match avs with
  | [.inl x, .inl y] => (True, some (.inl (if x < y then y else x)), σ)
  | _ => (False, none, σ)
def sw_min : sw_F := fun avs σ => match avs with
  | [.inl x, .inl y] => (True, some (.inl (if y < x then y else x)), σ)
  | _ => (False, none, σ)
theorem sw_cokX {p : Program} {e : Env} {R : Room} {s : State} {m : MethodId} {args : Array Value} {below : List Frame} {meth : Method} {c : Code} {cc : ByteArray} {nL : Nat} {own : String} (S : CallFix p m c cc nL s args sw_tbl own) (idx : Nat)
    (hw : Cond.methodLink own idx Lib.Math.max.name ∈ sw_tbl) (hR : 1 ≤ R.frames ∧ 21 ≤ R.locals) :
    sw_cok p l e R s m args below meth c ad V rf ln ca D cc nL (idx, 2, 0, sw_max) := by
  intro Qw pc H locs lsA avs rest σ hdec hlen hva hwσ hS hf h8 hsz kk
  rcases hdec with ⟨-, hdg⟩ | ⟨c1, k, tl, h0, -, -⟩
  · match avs, hf, kk with
    | [.inl x, .inl y], hf, kk =>
      exact va_mmax (rest := rest) S.1 S.2.1 (S.2.2.1.trans hsz.symm) S.2.2.2.1 (S.2.2.2.2 _ hw) (S.2.2.2.2 _ (by decide +kernel)) (S.2.2.2.2 _ (by decide +kernel)) (S.2.2.2.2 _ (by decide +kernel)) hR.1 (by have := hR.2; omega) (Nat.zero_le _) (Nat.zero_le _) hdg (kk H locs hwσ hS (fun v hv => by cases hv; trivial))
  · cases h0
theorem sw_cokM {p : Program} {e : Env} {R : Room} {s : State} {m : MethodId} {args : Array Value} {below : List Frame} {meth : Method} {c : Code} {cc : ByteArray} {nL : Nat} {own : String} (S : CallFix p m c cc nL s args sw_tbl own) (idx : Nat)
    (hw : Cond.methodLink own idx Lib.Math.min.name ∈ sw_tbl) (hR : 1 ≤ R.frames ∧ 21 ≤ R.locals) :
    sw_cok p l e R s m args below meth c ad V rf ln ca D cc nL (idx, 2, 0, sw_min) := by
  intro Qw pc H locs lsA avs rest σ hdec hlen hva hwσ hS hf h8 hsz kk
  rcases hdec with ⟨-, hdg⟩ | ⟨c1, k, tl, h0, -, -⟩
  · match avs, hf, kk with
    | [.inl x, .inl y], hf, kk =>
      exact va_mmin (rest := rest) S.1 S.2.1 (S.2.2.1.trans hsz.symm) S.2.2.2.1 (S.2.2.2.2 _ hw) (S.2.2.2.2 _ (by decide +kernel)) (S.2.2.2.2 _ (by decide +kernel)) (S.2.2.2.2 _ (by decide +kernel)) hR.1 (by have := hR.2; omega) (Nat.zero_le _) (Nat.zero_le _) hdg (kk H locs hwσ hS (fun v hv => by cases hv; trivial))
  · cases h0
end swMeth
