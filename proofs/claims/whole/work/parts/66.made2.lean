/-! Contracts of what makes; their calls -/
abbrev ck_2 : Type := (Nat → ck_E) × Nat
abbrev ck_F : Type := List sw_V → ck_2 → Prop × (Option sw_V × ck_2)
def ck_nw (U : State) : Prop := va_Nw (.methodLinkNest RX4 7 yX7_within RX7) U ∧ va_AO "StreamWires$Flow" U ∧ va_AO "StreamWires$Frame" U
def ck_Pw (b : Nat) (ca : Nat → ClassId) (D : va_G) (σ : ck_2) (U : State) : Prop := ck_W b ca D (σ.1, σ.2, 0, 0) U.heap ∧ va_K D vwCl (sw_ty ca) U ∧ ck_nw U
def ck_Qc (b : Nat) (ca : Nat → ClassId) (D : va_G) (r : Option sw_V) (σ : ck_2) : Array Value → State → Outcome → State → Prop := fun _ st o t =>
  o = .returned (r.map (sw_em (ck_ad b))) ∧ ck_W b ca D (σ.1, σ.2, 0, 0) t.heap ∧ va_F (ck_A b) st t
def ck_met (l : Launch) (b : Nat) (ca : Nat → ClassId) (D : va_G) (y : MethodName) (cc : ByteArray) (maxL : Nat) (ret : Option FieldType) (rm : Room) (n : Nat) (f : ck_F) : Prop :=
  ∀ (avs : List sw_V) (σ : ck_2), avs.length = n → (f avs σ).1 → Met l y (Cond.code y cc maxL ret :: sw_tbl) rm (va_Pc (avs.map (sw_em (ck_ad b))) (ck_Pw b ca D σ)) (ck_Qc b ca D (f avs σ).2.1 (f avs σ).2.2) rm.cells rm.slots (ck_A b)
theorem ck_nw.same {u U : State} (h : u.vm = U.vm) (hn : ck_nw u) : ck_nw U := ⟨va_Nw.same rfl h hn.1, va_AO.moved (by rw [h]; exact Vm.Alike.refl U.vm) hn.2.1, va_AO.moved (by rw [h]; exact Vm.Alike.refl U.vm) hn.2.2⟩
theorem ck_nw.warm {s U : State} (hW : s.WarmedH U.vm) (hn : ck_nw s) : ck_nw U := ⟨va_Nw.warmM hW hn.1, va_AO.moved hW.alike hn.2.1, va_AO.moved hW.alike hn.2.2⟩
theorem ck_Wc {b : Nat} {ca : Nat → ClassId} {D : va_G} {E : Nat → ck_E} {n : Nat} {H : Heap} {x y : Nat} (h : ck_W b ca D (E, n, x, y) H) (x' y' : Nat) : ck_W b ca D (E, n, x', y') H := h
section ckMeth
variable {l : Launch} {b : Nat} {ca : Nat → ClassId} {D : va_G}
/-- a contract out of a run -/
theorem ck_meth {y : MethodName} {cc : ByteArray} {maxL n N : Nat} {ret : Option FieldType} {rm : Room} {tree : Nat → sw_I} {cn : List (Nat × Int32)} {TS : sw_T} {CT : gs_C ck_S} {f : ck_F} (hy : plainName y.cls = true) (hrt : ret = none ∨ ret = some .int) (hnL : n ≤ maxL)
    (hchk : gs_chk cc cn TS N tree = true) (hcn : ∀ q ∈ cn, Jvm.Cond.constant y.cls q.1 q.2 ∈ sw_tbl)
    (hct : ∀ (p : Program) (e : Env) (s : State) (m : MethodId) (args : Array Value) (below : List Frame) (meth : Method) (c : Code) (Qw : State → Prop), CallFix p m c cc maxL s args sw_tbl y.cls → meth.name = y.name → va_K D vwCl (sw_ty ca) s → ck_nw s → ∀ q ∈ CT, ck_ok b ca D p l e rm s m args below meth c cc maxL Qw q)
    (hwp : ∀ (avs : List sw_V) (σ : ck_2) (G : Nat → sw_L → List sw_V → ck_S → Prop), avs.length = n → (f avs σ).1 → (∀ stop k pc L st σ', gs_ws CT TS N tree (fun r σ' => r = (f avs σ).2.1 ∧ σ'.1 = (f avs σ).2.2.1 ∧ σ'.2.1 = (f avs σ).2.2.2 ∧ σ'.2.2.1 ≤ rm.cells ∧ σ'.2.2.2 ≤ rm.slots ∧ (ret = none ↔ r = none)) G stop k pc L st σ' → G pc L st σ') → G 0 (sw_ent maxL avs) [] (σ.1, σ.2, 0, 0)) :
    ck_met l b ca D y cc maxL ret rm n f := by
  intro avs σ hlen hf
  refine Met.ofW (cc := cc) (maxL := maxL) (ret := ret) hy rfl ?_
  intro p e s m args below meth c s₁ B hml hv
  obtain ⟨rfl, hw, hT, hnw⟩ := hv
  have hx := B.exec
  have hb := B.bytes
  have hr := B.returns
  have hts0 := atoms_spec (ws := Cond.code y cc maxL ret :: sw_tbl) B.pre
  have hts : ∀ w ∈ sw_tbl, w.before (avs.map (sw_em (ck_ad b))).toArray s = true := fun w h => hts0 w (List.mem_cons_of_mem _ h)
  have hown : s.vm.findClass y.cls = some m.cls := findClass_of_methodNamed B.named
  have hlocks := B.notSynchronized
  have hname : meth.name = y.name := (name_of_methodNamed B.named B.method).1
  have hS : va_S (ck_A b) s.heap s.heap [] := va_S.rf
  have hR : ∀ (r : Option sw_V) (ins : Instr) (pc : Nat) (H : Heap) (locs : List Loc) (lsA : Array Slot) (σ' : ck_S), ((r = none ∧ ins = .return_) ∨ (∃ x : Int32, r = some (.inl x) ∧ ins = .ireturn)) → decode cc pc = .ok (ins, 1) → (r = (f avs σ).2.1 ∧ σ'.1 = (f avs σ).2.2.1 ∧ σ'.2.1 = (f avs σ).2.2.2 ∧ σ'.2.2.1 ≤ rm.cells ∧ σ'.2.2.2 ≤ rm.slots ∧ (ret = none ↔ r = none)) → ck_W b ca D σ' H → va_S (ck_A b) s.heap H locs → W p l e rm s m (avs.map (sw_em (ck_ad b))).toArray below meth c H locs (ck_cz σ') (ck_sz σ') (MQ below (ck_Qc b ca D (f avs σ).2.1 (f avs σ).2.2) (avs.map (sw_em (ck_ad b))).toArray s rm.cells rm.slots (ck_A b)) (F0 m pc lsA ((r.toList).map (sw_em (ck_ad b)))) := by
    intro r ins pc H locs lsA σ' hri hd hq hwq hSq
    obtain ⟨q1, q2, q3, q4, q5, q6⟩ := hq
    have fin : ∀ t : State, t.heap = H → ck_Qc b ca D (f avs σ).2.1 (f avs σ).2.2 (avs.map (sw_em (ck_ad b))).toArray s (.returned (r.map (sw_em (ck_ad b)))) t := fun t ht => ⟨by rw [q1], by
      rw [ht, ← q2, ← q3]
      exact hwq, hSq.F ht⟩
    refine W.widen (k := rm.cells) (n := rm.slots) q4 q5 ?_
    rcases hri with ⟨rfl, rfl⟩ | ⟨x, rfl, rfl⟩
    · have hr1 : meth.sig.returnType = none := hr.trans (q6.mpr rfl)
      exact W.vret hx hb hr1 (fun t ht hW => fin t ht) hSq.2.2 hd
    · have hr1 : meth.sig.returnType = some .int := hr.trans (by
        rcases hrt with h | h
        · exact absurd (q6.mp h) (by intro z; cases z)
        · exact h)
      exact W.zret hx hb hr1 rfl (fun t ht hW => fin t ht) hSq.2.2 hd
  have hl := lv_entry (avs.map (sw_em (ck_ad b))) (n := maxL) (by rw [sw_sl_len, hlen]; exact hnL)
  rw [lg_entry_eq]
  generalize (lg_sl (avs.map (sw_em (ck_ad b))) ++ List.replicate (maxL - (lg_sl (avs.map (sw_em (ck_ad b)))).length) Slot.unset).toArray = ls at hl ⊢
  have hov : ∀ v : sw_V, sw_ov ck_V v := fun v => by
    rcases v with x | _ | q
    · trivial
    · trivial
    · trivial
  have hrun := hwp avs σ (gs_at (ck_W b ca D) ck_cz ck_sz (ck_A b) p l e rm s m (avs.map (sw_em (ck_ad b))).toArray below meth c (ck_ad b) ck_V maxL (MQ below (ck_Qc b ca D (f avs σ).2.1 (f avs σ).2.2) (avs.map (sw_em (ck_ad b))).toArray s rm.cells rm.slots (ck_A b))) hlen hf (fun stop k pc L st σ' h => gs_run hx hb hown hts hcn (hct p e s m _ below meth c _ ⟨hx, hb, hml, hown, hts⟩ hname hT hnw) hR hchk (fun _ _ _ _ h => h) k pc L st σ' h)
  refine hrun s.heap [] ls hw hS ⟨hl.1, hl.2.1, sw_ent_len _ _, fun i v hi => ?_⟩ (fun i v hi => hov v) (fun v hv => by cases hv)
  have := sw_args_in (ck_ad b) avs 0 i v (sw_ent_get _ _ _ _ hi)
  rw [Nat.zero_add] at this
  exact hl.2.2 _ this
/-- a call's site -/
def ck_cf (rc rs mc ms : Nat) (f : ck_F) : gs_F ck_S := fun avs σ => ((f avs (σ.1, σ.2.1)).1 ∧ σ.2.2.1 + mc ≤ rc ∧ σ.2.2.2 + ms ≤ rs, (f avs (σ.1, σ.2.1)).2.1, ((f avs (σ.1, σ.2.1)).2.2.1, (f avs (σ.1, σ.2.1)).2.2.2, σ.2.2.1 + mc, σ.2.2.2 + ms))
theorem ck_blind {avs : List sw_V} {σ : ck_2} : FrameBlind (va_Pc (avs.map (sw_em (ck_ad b))) (ck_Pw b ca D σ)) := fun a U g mk q => by
  obtain ⟨q0, q1, q2, q3⟩ := q
  exact ⟨q0, q1, va_K.moved (u := U) (U := U.calling g mk a) (Vm.Alike.refl U.vm) q2, ck_nw.same (u := U) (U := U.calling g mk a) rfl q3⟩
theorem ck_call {p : Program} {e : Env} {R : Room} {s : State} {m : MethodId} {args : Array Value} {below : List Frame} {meth : Method} {c : Code} {H : Heap} {locs : List Loc} {Qw : State → Prop} {pc cells slots mc ms : Nat} {ls : Array Slot} {st0 rest : List Value} {r : Option sw_V} {σ : ck_2} {a : Array Value}
    (hr : va_Run p l e R s m args below meth c H locs cells slots mc ms (F0 m pc ls st0) rest (ck_Qc b ca D r σ a) (ck_A b)) (hS : va_S (ck_A b) s.heap H locs)
    (kk : ∀ (H1 : Heap) (locs1 : List Loc), ck_W b ca D (σ.1, σ.2, cells + mc, slots + ms) H1 → va_S (ck_A b) s.heap H1 locs1 → W p l e R s m args below meth c H1 locs1 (cells + mc) (slots + ms) Qw (F0 m (pc + 3) ls ((r.toList).map (sw_em (ck_ad b)) ++ rest))) : W p l e R s m args below meth c H locs cells slots Qw (F0 m pc ls st0) := by
  intro T hT X
  obtain ⟨v, st₀, t, T', L, h0, X', hL, e1, e2, ⟨hv, hw, hz, hk⟩, st⟩ := hr T hT X
  cases hv
  rw [h0] at hz hk
  obtain ⟨t2, a1, b1⟩ := kk T'.heap (locs ++ L) (by rw [e1]; exact hw) ⟨Nat.le_trans hS.1 (by rw [e1]; exact hz), fun q h1 h2 => by rw [e1, hk q (Nat.lt_of_lt_of_le h1 hS.1) h2]; exact hS.2.1 q h1 h2, fun q hq => by
      rcases List.mem_append.mp hq with h | h
      · exact hS.2.2 q h
      · exact hL q h⟩ T' rfl X'
  refine ⟨t2, st t2 ?_, b1⟩
  have e3 : (Option.map (sw_em (ck_ad b)) r).toList = (r.toList).map (sw_em (ck_ad b)) := by cases r <;> rfl
  rw [e3]
  exact a1
theorem ck_ov (v : sw_V) : sw_ov ck_V v := by
  rcases v with x | _ | q
  · trivial
  · trivial
  · trivial
section ckCalls
variable {p : Program} {e : Env} {R : Room} {s : State} {m : MethodId} {args : Array Value} {below : List Frame} {meth : Method} {c : Code} {cc : ByteArray} {nL : Nat} {own : String} {Qw : State → Prop}
/-- a constructor's call -/
theorem ck_callI (S : CallFix p m c cc nL s args sw_tbl own) (hT : va_K D vwCl (sw_ty ca) s) (hnw : ck_nw s)
    {y : MethodName} {cc' : ByteArray} {maxL' n : Nat} {rm' : Room} {f : ck_F} (M : ck_met l b ca D y cc' maxL' none rm' (n + 1) f) (idx : Nat) (hobj : ∀ avs σ, (f avs σ).1 → ∃ k tl, avs = .inr (some (0, k)) :: tl)
    (hw : Cond.methodLink own idx y ∈ sw_tbl ∧ Cond.instanceMethod y ∈ sw_tbl ∧ Cond.initialized y.cls ∈ sw_tbl ∧ Cond.code y cc' maxL' none ∈ sw_tbl)
    (hd : y.cls ≠ "java/lang/invoke/MethodHandle" ∧ y.cls ≠ "java/lang/invoke/VarHandle" ∧ (parseMethodDescriptor y.desc).map (fun d => d.parameters.length) = some n) (hin : y.name = "<init>") (hR : rm'.frames + 1 ≤ R.frames ∧ 8 + (maxL' + 11) + rm'.locals ≤ R.locals) :
    ck_ok b ca D p l e R s m args below meth c cc nL Qw (2, idx, n + 1, ck_cf R.cells R.slots rm'.cells rm'.slots f) := by
  intro pc H locs lsA avs rest σ hdg hlen hva hwσ hS hf h8 hsz kk
  obtain ⟨k, tl, rfl⟩ := hobj avs _ hf.1
  have hrun := va_runI (e := e) (below := below) (meth := meth) (R := R) (locs := locs) (cells := ck_cz σ) (slots := ck_sz σ) (b := b + k) (As := tl.map (sw_em (ck_ad b))) (rest := rest) (g := F0 m pc lsA ((((.inr (some (0, k)) :: tl : List sw_V)).map (sw_em (ck_ad b))).reverse ++ rest)) (n := n) S (M _ (σ.1, σ.2.1) hlen hf.1)
    ⟨callB_of n S.2.2.2.2 (sw_good_cons hw.2.2.2) rfl rfl rfl (S.2.2.2.2 _ hw.2.2.1) (S.2.2.2.2 _ hw.1) hd hR, hin, S.2.2.2.2 _ hw.2.1⟩
    ⟨ck_blind, fun U hU hW => ⟨rfl, by rw [hU]; exact hwσ, va_K.moved hW.alike hT, ck_nw.warm hW hnw⟩⟩ rfl (by rw [List.length_map]; exact Nat.succ.inj hlen) hsz (by simp [sw_em, ck_ad]) (lv_room h8) hdg hf.2
  exact ck_call hrun hS (fun H1 locs1 h1 h2 => kk H1 locs1 h1 h2 (fun v _ => ck_ov v))
/-- a static call -/
theorem ck_callS (S : CallFix p m c cc nL s args sw_tbl own) (hT : va_K D vwCl (sw_ty ca) s) (hnw : ck_nw s)
    {y : MethodName} {cc' : ByteArray} {maxL' n : Nat} {ret' : Option FieldType} {rm' : Room} {f : ck_F} (M : ck_met l b ca D y cc' maxL' ret' rm' n f) (idx : Nat)
    (hw : Cond.methodLink own idx y ∈ sw_tbl ∧ Cond.static y ∈ sw_tbl ∧ Cond.initialized y.cls ∈ sw_tbl ∧ Cond.code y cc' maxL' ret' ∈ sw_tbl)
    (hd : y.cls ≠ "java/lang/invoke/MethodHandle" ∧ y.cls ≠ "java/lang/invoke/VarHandle" ∧ (parseMethodDescriptor y.desc).map (fun d => d.parameters.length) = some n) (hR : rm'.frames + 1 ≤ R.frames ∧ 8 + (maxL' + 11) + rm'.locals ≤ R.locals) :
    ck_ok b ca D p l e R s m args below meth c cc nL Qw (1, idx, n, ck_cf R.cells R.slots rm'.cells rm'.slots f) := by
  intro pc H locs lsA avs rest σ hdg hlen hva hwσ hS hf h8 hsz kk
  have hrun := va_runS (e := e) (below := below) (meth := meth) (R := R) (locs := locs) (cells := ck_cz σ) (slots := ck_sz σ) (As := avs.map (sw_em (ck_ad b))) (rest := rest) (g := F0 m pc lsA ((avs.map (sw_em (ck_ad b))).reverse ++ rest)) (n := n) S (M _ (σ.1, σ.2.1) hlen hf.1)
    ⟨callB_of n S.2.2.2.2 (sw_good_cons hw.2.2.2) rfl rfl rfl (S.2.2.2.2 _ hw.2.2.1) (S.2.2.2.2 _ hw.1) hd hR, S.2.2.2.2 _ hw.2.1⟩
    ⟨ck_blind, fun U hU hW => ⟨rfl, by rw [hU]; exact hwσ, va_K.moved hW.alike hT, ck_nw.warm hW hnw⟩⟩ rfl (by rw [List.length_map]; exact hlen) hsz rfl (lv_room h8) hdg hf.2
  exact ck_call hrun hS (fun H1 locs1 h1 h2 => kk H1 locs1 h1 h2 (fun v _ => ck_ov v))
/-- a nest mate's static call -/
theorem ck_callN {host : String} (S : CallFix p m c cc nL s args sw_tbl own) (hT : va_K D vwCl (sw_ty ca) s) (hnw : ck_nw s)
    {y : MethodName} {cc' : ByteArray} {maxL' n : Nat} {ret' : Option FieldType} {rm' : Room} {f : ck_F} (M : ck_met l b ca D y cc' maxL' ret' rm' n f) (idx : Nat) (hl : va_Nw (.methodLinkNest own idx y host) s)
    (hw : Cond.static y ∈ sw_tbl ∧ Cond.initialized y.cls ∈ sw_tbl ∧ Cond.code y cc' maxL' ret' ∈ sw_tbl)
    (hd : y.cls ≠ "java/lang/invoke/MethodHandle" ∧ y.cls ≠ "java/lang/invoke/VarHandle" ∧ (parseMethodDescriptor y.desc).map (fun d => d.parameters.length) = some n) (hR : rm'.frames + 1 ≤ R.frames ∧ 8 + (maxL' + 11) + rm'.locals ≤ R.locals) :
    ck_ok b ca D p l e R s m args below meth c cc nL Qw (1, idx, n, ck_cf R.cells R.slots rm'.cells rm'.slots f) := by
  intro pc H locs lsA avs rest σ hdg hlen hva hwσ hS hf h8 hsz kk
  have hrun := va_runSN (e := e) (below := below) (meth := meth) (R := R) (locs := locs) (cells := ck_cz σ) (slots := ck_sz σ) (As := avs.map (sw_em (ck_ad b))) (rest := rest) (g := F0 m pc lsA ((avs.map (sw_em (ck_ad b))).reverse ++ rest)) (n := n) S (M _ (σ.1, σ.2.1) hlen hf.1)
    ⟨va_cnB n S.2.2.2.2 (sw_good_cons hw.2.2) rfl rfl rfl hl (S.2.2.2.2 _ hw.2.1) hd hR, S.2.2.2.2 _ hw.1, trivial⟩
    ⟨ck_blind, fun U hU hW => ⟨rfl, by rw [hU]; exact hwσ, va_K.moved hW.alike hT, ck_nw.warm hW hnw⟩⟩ rfl (by rw [List.length_map]; exact hlen) hsz rfl (lv_room h8) hdg hf.2
  exact ck_call hrun hS (fun H1 locs1 h1 h2 => kk H1 locs1 h1 h2 (fun v _ => ck_ov v))
/-- a call of an object's method -/
theorem ck_callV (S : CallFix p m c cc nL s args sw_tbl own) (hT : va_K D vwCl (sw_ty ca) s) (hnw : ck_nw s)
    {y : MethodName} {cc' : ByteArray} {maxL' n : Nat} {ret' : Option FieldType} {rm' : Room} {f : ck_F} (M : ck_met l b ca D y cc' maxL' ret' rm' (n + 1) f) (idx c0 : Nat) (h9 : c0 < 9) (hobj : ∀ avs σ, (f avs σ).1 → ∃ k tl, avs = .inr (some (0, k)) :: tl ∧ k < σ.2 ∧ (ob (σ.1 k)).1 = c0)
    (hw : Cond.methodLink own idx y ∈ sw_tbl ∧ Cond.instanceMethod y ∈ sw_tbl ∧ Cond.selects y.cls y y ∈ sw_tbl ∧ Cond.initialized y.cls ∈ sw_tbl ∧ Cond.code y cc' maxL' ret' ∈ sw_tbl)
    (hd : y.cls = (sw_cl c0).1 ∧ y.cls ≠ "java/lang/invoke/MethodHandle" ∧ y.cls ≠ "java/lang/invoke/VarHandle" ∧ (parseMethodDescriptor y.desc).map (fun d => d.parameters.length) = some n) (hR : rm'.frames + 1 ≤ R.frames ∧ 8 + (maxL' + 11) + rm'.locals ≤ R.locals) :
    ck_ok b ca D p l e R s m args below meth c cc nL Qw (0, idx, n + 1, ck_cf R.cells R.slots rm'.cells rm'.slots f) := by
  intro pc H locs lsA avs rest σ hdg hlen hva hwσ hS hf h8 hsz kk
  obtain ⟨k, tl, rfl, hk, hk0⟩ := hobj avs _ hf.1
  have hE := ob_of hk0 h9
  have hP := hwσ.one hk (by rw [hE])
  have hrec := va_recv hT hP (ci := c0) (q := sw_cl c0) (q0 := 0) (sw_cl_at h9) rfl
  rw [← hd.1] at hrec
  have hrun := va_runV (e := e) (below := below) (meth := meth) (R := R) (locs := locs) (cells := ck_cz σ) (slots := ck_sz σ) (As := tl.map (sw_em (ck_ad b))) (rest := rest) (g := F0 m pc lsA ((((.inr (some (0, k)) :: tl : List sw_V)).map (sw_em (ck_ad b))).reverse ++ rest)) S (M _ (σ.1, σ.2.1) hlen hf.1)
    (cwV n S.2.2.2.2 (fun w hw2 => by
      rcases List.mem_append.mp hw2 with h | h
      · simp only [List.mem_cons, List.not_mem_nil, or_false] at h
        rcases h with rfl | rfl | rfl | rfl
        · exact sw_tbl_good _ hw.1
        · exact sw_tbl_good _ hw.2.1
        · exact sw_tbl_good _ hw.2.2.1
        · exact sw_tbl_good _ hw.2.2.2.1
      · exact sw_good_cons hw.2.2.2.2 _ h) rfl rfl rfl ⟨rfl, hd.2⟩ hR)
    ⟨ck_blind, hrec, fun U hU hW => ⟨rfl, by rw [hU]; exact hwσ, va_K.moved hW.alike hT, ck_nw.warm hW hnw⟩⟩ rfl (by rw [List.length_map]; exact Nat.succ.inj hlen) hsz (by simp [sw_em, ck_ad]) (lv_room h8) hdg hf.2
  exact ck_call hrun hS (fun H1 locs1 h1 h2 => kk H1 locs1 h1 h2 (fun v _ => ck_ov v))
end ckCalls
end ckMeth
