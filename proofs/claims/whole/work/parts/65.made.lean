/-! What is made: the cells from b on, one behind the other; rows of the heap over them -/
abbrev ck_E : Type := (Nat × (Nat → sw_V)) ⊕ (Nat × Nat × ((Nat → Int32) ⊕ (Nat → Option Nat)))
abbrev ck_S : Type := (Nat → ck_E) × Nat × Nat × Nat
def ck_ad (b : Nat) : sw_A := fun _ k => b + k
def ck_mk (b N : Nat) (f : Nat → sw_V) : List Value := (List.range N).map (fun j => sw_em (ck_ad b) (f j))
def ck_en (b : Nat) (ca : Nat → ClassId) : ck_E → va_E
  | .inl q => .inr (q.1, ck_mk b (sw_cl q.1).2.2 q.2)
  | .inr (t, n, .inl r) => .inl (ca t, n, .inl r)
  | .inr (t, n, .inr g) => .inl (ca t, n, .inr (.inr (.inr (.inr (fun j => (g j).map (fun k => b + k))))))
def ck_W (b : Nat) (ca : Nat → ClassId) (D : va_G) (σ : ck_S) (H : Heap) : Prop := H.size = b + σ.2.1 ∧ ∀ i, i < σ.2.1 → va_at D vwCl (b + i, ck_en b ca (σ.1 i)) H
def ck_cz (σ : ck_S) : Nat := σ.2.2.1
def ck_sz (σ : ck_S) : Nat := σ.2.2.2
def ck_A (b : Nat) : Nat → Prop := fun q => b ≤ q
abbrev ck_V : Nat → Nat → Prop := fun _ _ => True
theorem ck_mk_at {b N : Nat} {f : Nat → sw_V} {j : Nat} (h : j < N) : (ck_mk b N f)[j]? = some (sw_em (ck_ad b) (f j)) := by
  unfold ck_mk
  rw [List.getElem?_map, List.getElem?_range h]
  rfl
theorem ck_mk_V {b N : Nat} {f : Nat → sw_V} {j : Nat} (h : j < N) : vp_V (ck_mk b N f) j = sw_em (ck_ad b) (f j) := by
  unfold vp_V
  rw [List.getD_eq_getElem?_getD, ck_mk_at h]
  rfl
theorem ck_W.put {b : Nat} {ca : Nat → ClassId} {D : va_G} {σ : ck_S} {H H1 : Heap} (h : ck_W b ca D σ H) {i : Nat} {x : ck_E} (z : H1.size = H.size) (he : va_at D vwCl (b + i, ck_en b ca x) H1) (oq : ∀ q : Nat, q ≠ b + i → H1[q]? = H[q]?) : ck_W b ca D (u1 σ.1 i x, σ.2) H1 := by
  refine ⟨by rw [z]; exact h.1, fun k hk => ?_⟩
  show va_at D vwCl (b + k, ck_en b ca (u1 σ.1 i x k)) H1
  by_cases hki : k = i
  · subst hki
    rw [u1_s]
    exact he
  · rw [u1_n _ _ hki]
    exact (h.2 k hk).kept (oq _ (by omega))
theorem ck_W.push {b : Nat} {ca : Nat → ClassId} {D : va_G} {σ : ck_S} {H H1 : Heap} (h : ck_W b ca D σ H) {x : ck_E} (z : H1.size = b + σ.2.1 + 1) (he : va_at D vwCl (b + σ.2.1, ck_en b ca x) H1) (oq : ∀ q : Nat, q < b + σ.2.1 → H1[q]? = H[q]?) (c' s' : Nat) : ck_W b ca D (u1 σ.1 σ.2.1 x, σ.2.1 + 1, c', s') H1 := by
  refine ⟨by rw [z]; rfl, fun k hk => ?_⟩
  have hk : k < σ.2.1 + 1 := hk
  show va_at D vwCl (b + k, ck_en b ca (u1 σ.1 σ.2.1 x k)) H1
  by_cases hki : k = σ.2.1
  · rw [hki, u1_s]
    exact he
  · rw [u1_n _ _ hki]
    exact (h.2 k (by omega)).kept (oq _ (by omega))
theorem ck_S_push {b : Nat} {H0 H H1 : Heap} {locs : List Loc} {n : Nat} (h : va_S (ck_A b) H0 H locs) (hs : H.size = n) (z : H1.size = n + 1) (oq : ∀ q : Nat, q < n → H1[q]? = H[q]?) : va_S (ck_A b) H0 H1 locs := by
  have h1 := h.1
  exact ⟨by omega, fun q h1 h2 => (oq q (by omega)).trans (h.2.1 q h1 h2), h.2.2⟩
theorem ck_W.one {b : Nat} {ca : Nat → ClassId} {D : va_G} {σ : ck_S} {H : Heap} (h : ck_W b ca D σ H) {i : Nat} (hi : i < σ.2.1) {E : va_E} (hE : ck_en b ca (σ.1 i) = E) : va_P D vwCl [(b + i, E)] H := by
  intro k q hq
  subst hE
  match k, hq with
  | 0, hq => cases hq; exact h.2 i hi
  | k + 1, hq => simp at hq
/-- the values of a new object -/
def ck_dv (c j : Nat) : sw_V := match sw_tc c j with
  | .int => .inl 0
  | .boolean => .inl 0
  | _ => .inr none
def ck_tk (t : FieldType) : Bool := match t with
  | .int => true
  | .boolean => true
  | .object _ => true
  | .array _ => true
  | _ => false
theorem ck_tk_all : ∀ c, c < 9 → (List.range (sw_cl c).2.2).all (fun j => ck_tk (sw_tc c j)) = true := by decide +kernel
theorem ck_dv_ok (ad : sw_A) {c j : Nat} (hc : c < 9) (hj : j < (sw_cl c).2.2) : defaultValue (sw_tc c j) = sw_em ad (ck_dv c j) := by
  have h := List.all_eq_true.mp (ck_tk_all c hc) j (List.mem_range.mpr hj)
  unfold ck_dv
  generalize sw_tc c j = t at h
  cases t <;> first | rfl | cases h
def ob : ck_E → Nat × (Nat → sw_V)
  | .inl o => o
  | .inr _ => (99, fun _ => .inr none)
def ar : ck_E → Nat × Nat
  | .inr o => (o.1, o.2.1)
  | .inl _ => (99, 0)
def ri : ck_E → Nat → Int32
  | .inr (_, _, .inl r) => r
  | _ => fun _ => 0
def rq : ck_E → Nat → Option Nat
  | .inr (_, _, .inr g) => g
  | _ => fun _ => none
theorem ob_of {x : ck_E} {c : Nat} (h : (ob x).1 = c) (h9 : c < 9) : x = .inl (c, (ob x).2) := by
  cases x with
  | inl o => rw [← h]; rfl
  | inr o =>
    have h : 99 = c := h
    omega
section ckRows
variable {p : Program} {l : Launch} {e : Env} {R : Room} {s : State} {m : MethodId} {args : Array Value} {below : List Frame} {meth : Method} {c : Code} {cc : ByteArray} {nL : Nat} {Qw : State → Prop} {b : Nat} {ca : Nat → ClassId} {D : va_G}
abbrev ck_ok (b : Nat) (ca : Nat → ClassId) (D : va_G) (p : Program) (l : Launch) (e : Env) (R : Room) (s : State) (m : MethodId) (args : Array Value) (below : List Frame) (meth : Method) (c : Code) (cc : ByteArray) (nL : Nat) (Qw : State → Prop) (q : Nat × Nat × Nat × gs_F ck_S) : Prop := gs_cok (ck_W b ca D) ck_cz ck_sz (ck_A b) p l e R s m args below meth c (ck_ad b) ck_V cc nL Qw q
/-- new -/
def ck_new (rc rs c0 : Nat) : gs_F ck_S := fun _ σ => (σ.2.2.1 + 1 ≤ rc ∧ σ.2.2.2 + (sw_cl c0).2.2 ≤ rs, some (.inr (some (0, σ.2.1))), (u1 σ.1 σ.2.1 (.inl (c0, ck_dv c0)), σ.2.1 + 1, σ.2.2.1 + 1, σ.2.2.2 + (sw_cl c0).2.2))
theorem ck_new_ok (hx : p.tables.exec = Jvm.exec) (hb : c.code = cc) {own : String} (hts : ∀ w ∈ sw_tbl, w.before args s = true) (hown : s.vm.findClass own = some m.cls) (hK : va_K D vwCl (sw_ty ca) s) {idx c0 : Nat} (h9 : c0 < 9) (hcl : Cond.classLink own idx (sw_cl c0).1 ∈ sw_tbl) (hinst : Cond.instantiable (sw_cl c0).1 (sw_cl c0).2.2 ∈ sw_tbl) (hini : Cond.initialized (sw_cl c0).1 ∈ sw_tbl) : ck_ok b ca D p l e R s m args below meth c cc nL Qw (3, idx, 0, ck_new R.cells R.slots c0) := by
  intro pc H locs lsA avs rest σ hd hlen hva hw hS hf h8 hsz kk
  match avs, hlen with
  | [], _ =>
    have hKn := hK.1 c0 _ (sw_cl_at h9)
    refine W.newcK hx hb hown (hts _ hcl) (hts _ hinst) (hts _ hini) rfl hd hf.1 hf.2 hKn.2.1 hw.1 fun H1 kC hkC e1 z1 o1 => ?_
    refine kk H1 locs (hw.push z1 ?_ o1 _ _) (ck_S_push hS hw.1 z1 o1) (fun v hv => by cases hv; trivial)
    exact ⟨_, sw_cl_at h9, (u_born (sw_tc c0) hts (sw_cl_in h9) hKn hkC e1 (sw_cl_ty h9)).to (fun k hk => by rw [ck_mk_V hk]; exact ck_dv_ok _ h9 hk)⟩
/-- newarray -/
def ck_newa (rc rs t : Nat) : gs_F ck_S := fun avs σ => match avs with
  | [.inl x] => (¬ x < 0 ∧ x.toNatClampNeg ≤ 100000 ∧ σ.2.2.1 + 1 ≤ rc ∧ σ.2.2.2 + x.toNatClampNeg ≤ rs, some (.inr (some (0, σ.2.1))), (u1 σ.1 σ.2.1 (.inr (t, x.toNatClampNeg, .inl (fun _ => 0))), σ.2.1 + 1, σ.2.2.1 + 1, σ.2.2.2 + x.toNatClampNeg))
  | _ => (False, none, σ)
theorem ck_newi_ok (hx : p.tables.exec = Jvm.exec) (hb : c.code = cc) (hts : ∀ w ∈ sw_tbl, w.before args s = true) (hK : va_K D vwCl (sw_ty ca) s) : ck_ok b ca D p l e R s m args below meth c cc nL Qw (4, 0, 1, ck_newa R.cells R.slots 0) := by
  intro pc H locs lsA avs rest σ hd hlen hva hw hS hf h8 hsz kk
  match avs, hlen, hf, kk with
  | [.inl x], _, hf, kk =>
    refine va_newaK hx hb (atype := .int) (hts _ (by decide +kernel)) rfl hd rfl hf.1 rfl (by show _ * 4 ≤ _; have := hf.2.1; omega) hf.2.2.1 hf.2.2.2 hw.1 fun H1 cA e1 z1 o1 hAr hNm => ?_
    refine kk H1 locs (hw.push z1 ?_ o1 _ _) (ck_S_push hS hw.1 z1 o1) (fun v hv => by cases hv; trivial)
    have hca : cA = ca 0 := Option.some.inj (hNm.symm.trans (hK.2 0 _ rfl).2)
    subst hca
    exact e1
  | [.inr _], _, hf, _ => exact hf.elim
theorem ck_newz_ok (hx : p.tables.exec = Jvm.exec) (hb : c.code = cc) (hts : ∀ w ∈ sw_tbl, w.before args s = true) (hK : va_K D vwCl (sw_ty ca) s) : ck_ok b ca D p l e R s m args below meth c cc nL Qw (12, 0, 1, ck_newa R.cells R.slots 1) := by
  intro pc H locs lsA avs rest σ hd hlen hva hw hS hf h8 hsz kk
  match avs, hlen, hf, kk with
  | [.inl x], _, hf, kk =>
    refine va_newaK hx hb (atype := .boolean) (hts _ (by decide +kernel)) rfl hd rfl hf.1 rfl (by show _ * 1 ≤ _; have := hf.2.1; omega) hf.2.2.1 hf.2.2.2 hw.1 fun H1 cA e1 z1 o1 hAr hNm => ?_
    refine kk H1 locs (hw.push z1 ?_ o1 _ _) (ck_S_push hS hw.1 z1 o1) (fun v hv => by cases hv; trivial)
    have hca : cA = ca 1 := Option.some.inj (hNm.symm.trans (hK.2 1 _ rfl).2)
    subst hca
    exact e1
  | [.inr _], _, hf, _ => exact hf.elim
/-- anewarray -/
def ck_newq (rc rs t : Nat) : gs_F ck_S := fun avs σ => match avs with
  | [.inl x] => (¬ x < 0 ∧ x.toNatClampNeg ≤ 100000 ∧ σ.2.2.1 + 1 ≤ rc ∧ σ.2.2.2 + x.toNatClampNeg ≤ rs, some (.inr (some (0, σ.2.1))), (u1 σ.1 σ.2.1 (.inr (t, x.toNatClampNeg, .inr (fun _ => none))), σ.2.1 + 1, σ.2.2.1 + 1, σ.2.2.2 + x.toNatClampNeg))
  | _ => (False, none, σ)
theorem ck_newq_ok (hx : p.tables.exec = Jvm.exec) (hb : c.code = cc) {own C : String} (hts : ∀ w ∈ sw_tbl, w.before args s = true) (hown : s.vm.findClass own = some m.cls) (hK : va_K D vwCl (sw_ty ca) s) {idx t t0 : Nat} (hcl : Cond.classLink own idx C ∈ sw_tbl) (hov : va_AO C s) (ht0 : (sw_ty ca)[t0]? = some (ca t, .object C)) : ck_ok b ca D p l e R s m args below meth c cc nL Qw (5, idx, 1, ck_newq R.cells R.slots t) := by
  intro pc H locs lsA avs rest σ hd hlen hva hw hS hf h8 hsz kk
  match avs, hlen, hf, kk with
  | [.inl x], _, hf, kk =>
    refine W.anew hx hb hown (hts _ hcl) (va_AO.use hov) rfl hd rfl hf.1 (by have := hf.2.1; omega) hf.2.2.1 hf.2.2.2 fun cA kA comp f1 f2 f3 f4 => ?_
    obtain ⟨kA', comp', -, -, -, g4⟩ := (hK.2 t0 _ ht0).2
    have hca : cA = ca t := Option.some.inj (f1.symm.trans g4)
    subst hca
    generalize hH1 : H.push ({ cls := ca t, slots := Array.replicate x.toNatClampNeg .null, vm := .none } : Cell) = H1
    have z1 : H1.size = H.size + 1 := by rw [← hH1, Array.size_push]
    have e1 : H1[H.size]? = some (arrV (ca t) x.toNatClampNeg (fun _ => .null)) := by rw [← hH1, Array.getElem?_push_size, ← arrV_new]
    have o1 : ∀ q : Nat, q < H.size → H1[q]? = H[q]? := fun q hq => by rw [← hH1, Array.getElem?_push, if_neg (Nat.ne_of_lt hq)]
    have hs := hw.1
    rw [hs] at z1 e1 o1
    have := kk H1 locs (hw.push (x := .inr (t, x.toNatClampNeg, .inr (fun _ => none))) z1 (by show H1[b + σ.2.1]? = some (vp_cell _ _); rw [vp_cell_q]; exact e1) o1 _ _) (ck_S_push hS hs z1 o1) (fun v hv => by cases hv; trivial)
    rw [hs]
    exact this
  | [.inr _], _, hf, _ => exact hf.elim
/-- getfield -/
def ck_get (c0 j : Nat) : gs_F ck_S := fun avs σ => match avs with
  | [.inr (some q)] => (q.2 < σ.2.1 ∧ (ob (σ.1 q.2)).1 = c0, some ((ob (σ.1 q.2)).2 j), σ)
  | _ => (False, none, σ)
theorem ck_get_ok (hx : p.tables.exec = Jvm.exec) (hb : c.code = cc) {own : String} (hts : ∀ w ∈ sw_tbl, w.before args s = true) (hown : s.vm.findClass own = some m.cls) (hK : va_K D vwCl (sw_ty ca) s) {idx c0 j : Nat} (h9 : c0 < 9) (hj : j < (sw_cl c0).2.2) (hlink : Cond.fieldLink own idx ((sw_cl c0).2.1 j).1 ((sw_cl c0).2.1 j).2.1 ((sw_cl c0).2.1 j).2.2.1 ∈ sw_tbl) : ck_ok b ca D p l e R s m args below meth c cc nL Qw (6, idx, 1, ck_get c0 j) := by
  intro pc H locs lsA avs rest σ hd hlen hva hw hS hf h8 hsz kk
  match avs, hlen, hf, kk with
  | [.inl _], _, hf, _ => exact hf.elim
  | [.inr none], _, hf, _ => exact hf.elim
  | [.inr (some (z, i))], _, hf, kk =>
    have hE := ob_of hf.2 h9
    have hP := hw.one hf.1 (by rw [hE])
    refine va_get (C := (sw_cl c0).1) (T := (sw_cl c0).2.1) (N := (sw_cl c0).2.2) (ci := c0) hx hb hts (sw_cl_in h9) hown hK hP 0 rfl (sw_cl_at h9) j hj (hts _ hlink) (fun _ h => h) (ck_mk_at hj) hd (kk H locs hw hS ?_)
    intro v hv
    rcases v with x | _ | q
    · trivial
    · trivial
    · trivial
/-- putfield -/
def ck_fit (c0 j : Nat) (v : sw_V) : Prop := match sw_tc c0 j with
  | .int => ∃ x, v = .inl x
  | .boolean => ∃ x, v = .inl x ∧ sw_bo x
  | _ => ∃ r, v = .inr r
def ck_put (c0 j : Nat) : gs_F ck_S := fun avs σ => match avs with
  | [.inr (some q), v] => (q.2 < σ.2.1 ∧ (ob (σ.1 q.2)).1 = c0 ∧ ck_fit c0 j v, none, (u1 σ.1 q.2 (.inl (c0, u1 (ob (σ.1 q.2)).2 j v)), σ.2))
  | _ => (False, none, σ)
theorem ck_fit_ok (ad : sw_A) {c0 j : Nat} {v : sw_V} (h9 : c0 < 9) (hj : j < (sw_cl c0).2.2) (h : ck_fit c0 j v) : narrow (sw_tc c0 j) (sw_em ad v) = sw_em ad v ∧ fits (sw_tc c0 j) (sw_em ad v) = true := by
  have hk := List.all_eq_true.mp (ck_tk_all c0 h9) j (List.mem_range.mpr hj)
  unfold ck_fit at h
  generalize sw_tc c0 j = t at h hk
  cases t
  case int =>
    obtain ⟨x, rfl⟩ := h
    exact ⟨rfl, rfl⟩
  case boolean =>
    obtain ⟨x, rfl, hx⟩ := h
    rcases hx with rfl | rfl <;> exact ⟨rfl, rfl⟩
  case object n =>
    obtain ⟨r, rfl⟩ := h
    rcases r with _ | q <;> exact ⟨rfl, rfl⟩
  case array n =>
    obtain ⟨r, rfl⟩ := h
    rcases r with _ | q <;> exact ⟨rfl, rfl⟩
  all_goals cases hk
theorem ck_upd {b N : Nat} {f : Nat → sw_V} {j : Nat} {v : sw_V} : ∀ i, i < N → updV (vp_V (ck_mk b N f)) j (sw_em (ck_ad b) v) i = vp_V (ck_mk b N (u1 f j v)) i := by
  intro i hi
  rw [ck_mk_V hi]
  unfold updV u1
  by_cases hij : i = j
  · rw [if_pos hij, if_pos hij]
  · rw [if_neg hij, if_neg hij, ck_mk_V hi]
theorem ck_put_ok (hx : p.tables.exec = Jvm.exec) (hb : c.code = cc) {own : String} (hts : ∀ w ∈ sw_tbl, w.before args s = true) (hown : s.vm.findClass own = some m.cls) (hK : va_K D vwCl (sw_ty ca) s) {idx c0 j : Nat} (h9 : c0 < 9) (hj : j < (sw_cl c0).2.2) (hlink : Cond.fieldLink own idx ((sw_cl c0).2.1 j).1 ((sw_cl c0).2.1 j).2.1 ((sw_cl c0).2.1 j).2.2.1 ∈ sw_tbl) (hin2 : meth.name = "<init>") (hdecl : ((sw_cl c0).2.1 j).1 = own) : ck_ok b ca D p l e R s m args below meth c cc nL Qw (7, idx, 2, ck_put c0 j) := by
  intro pc H locs lsA avs rest σ hd hlen hva hw hS hf h8 hsz kk
  match avs, hlen, hf, kk with
  | [.inl _, _], _, hf, _ => exact hf.elim
  | [.inr none, _], _, hf, _ => exact hf.elim
  | [.inr (some (z, i)), v], _, hf, kk =>
    obtain ⟨hi, h0, hfit⟩ := hf
    have hE := ob_of h0 h9
    obtain ⟨f, hf2⟩ : ∃ f, f = (ob (σ.1 i)).2 := ⟨_, rfl⟩
    have hi : i < σ.2.1 := hi
    have kk : ∀ (H1 : Heap) (locs1 : List Loc), ck_W b ca D (u1 σ.1 i (.inl (c0, u1 (ob (σ.1 i)).2 j v)), σ.2) H1 → va_S (ck_A b) s.heap H1 locs1 → (∀ v, (none : Option sw_V) = some v → sw_ov ck_V v) → W p l e R s m args below meth c H1 locs1 (ck_cz σ) (ck_sz σ) Qw (F0 m (pc + 3) lsA rest) := kk
    rw [← hf2] at hE kk
    have key : W p l e R s m args below meth c H locs (ck_cz σ) (ck_sz σ) Qw (F0 m pc lsA (sw_em (ck_ad b) v :: .ref (b + i) :: rest)) := by
      have hnf := ck_fit_ok (ck_ad b) h9 hj hfit
      have hpd := sw_cl_ty h9 j hj
      have hap := va_apart (own := own) hts (sw_cl_in h9) (sw_tc c0) (sw_cl_ty h9) (sw_cl_nm h9) hK (sw_cl_at h9)
      have hat := hw.2 i hi
      rw [hE] at hat
      obtain ⟨r, h1, cell, q1, q2, q3, q4⟩ := hat
      have hr : r = sw_cl c0 := Option.some.inj (h1.symm.trans (sw_cl_at h9))
      subst hr
      obtain ⟨hSl, hfc, kC, hkC, hkind⟩ := hK.1 c0 _ (sw_cl_at h9)
      obtain ⟨cf, kf, fi, fd, hfi, hsl⟩ := hSl j hj
      have hlay := hts _ (sw_cl_in h9 _ (u_in_lay hj))
      have hst := (u_facts hfc hkC (u_lays hts (sw_cl_in h9) hj) hfi).1
      have fin : ∀ H' : Heap, H'[b + i]? = some { cell with slots := cell.slots.setIfInBounds (D.2 c0 j) (sw_em (ck_ad b) v) } → H'.size = H.size → (∀ q : Nat, q ≠ b + i → H'[q]? = H[q]?) → W p l e R s m args below meth c H' (locs ++ [⟨b + i, D.2 c0 j⟩]) (ck_cz σ) (ck_sz σ) Qw (F0 m (pc + 3) lsA rest) := by
        intro H' e1 e2 e3
        refine kk H' _ (hw.put e2 ?_ e3) (hS.put e2 e3 (Nat.le_add_right b i)) (fun v hv => by cases hv)
        exact ⟨_, sw_cl_at h9, t_OB.to (V := updV (vp_V (ck_mk b (sw_cl c0).2.2 f)) j (sw_em (ck_ad b) v)) ⟨_, e1, q2, q3, t_set q4 hap hj (sw_em (ck_ad b) v)⟩ ck_upd⟩
      unfold u_lay at hlay
      by_cases hfin : ((sw_cl c0).2.1 j).2.2.2 = true
      · rw [if_pos hfin] at hlay
        have hcf : m.cls = cf := by
          obtain ⟨_, _, c', _, _, _, -, -, hf', -, -, -, hown2, -⟩ := Cond.laysFinal_spec hlay
          have e1 : c' = cf := by have := hfi.symm.trans hf'; simp at this; exact this.1.symm
          rw [hdecl] at hown2
          rw [← e1]; exact Option.some.inj (hown.symm.trans hown2)
        have h6 := u_fits hfc hkC hkind (Or.inr hlay) hfi hpd hnf.1 hnf.2
        refine W.putFinK hx hb hown (hts _ hlink) hfi hst hcf hin2 (by rw [q2]; exact h6) q1 q3 (by rw [hsl]; exact k2_hasslot (q4 j hj)) rfl rfl hd fun H' e1 e2 e3 => ?_
        rw [hsl] at e1 ⊢
        exact fin H' e1 e2 e3
      · rw [if_neg hfin] at hlay
        have h6 := u_store hfc hkC hkind hlay hfi hpd hnf.1 hnf.2
        refine W.putK hx hb (f := fd) ⟨hown, hts _ hlink, ⟨_, _, _, hfi⟩, hst⟩ (by rw [q2]; exact h6) q1 q3 (by rw [hsl]; exact k2_hasslot (q4 j hj)) rfl rfl hd fun H' e1 e2 e3 => ?_
        rw [hsl] at e1 ⊢
        exact fin H' e1 e2 e3
    exact key
/-- arraylength -/
def ck_len : gs_F ck_S := fun avs σ => match avs with
  | [.inr (some q)] => (q.2 < σ.2.1 ∧ ((ar (σ.1 q.2)).1 = 3 ∨ (ar (σ.1 q.2)).1 = 4) ∧ σ.1 q.2 = .inr ((ar (σ.1 q.2)).1, (ar (σ.1 q.2)).2, .inr (rq (σ.1 q.2))), some (.inl (nI (ar (σ.1 q.2)).2)), σ)
  | _ => (False, none, σ)
theorem ck_len_ok (hx : p.tables.exec = Jvm.exec) (hb : c.code = cc) (hK : va_K D vwCl (sw_ty ca) s) : ck_ok b ca D p l e R s m args below meth c cc nL Qw (11, 0, 1, ck_len) := by
  intro pc H locs lsA avs rest σ hd hlen hva hw hS hf h8 hsz kk
  match avs, hlen, hf, kk with
  | [.inl _], _, hf, _ => exact hf.elim
  | [.inr none], _, hf, _ => exact hf.elim
  | [.inr (some (z, i))], _, hf, kk =>
    obtain ⟨hi, ht, hE⟩ := hf
    have hP := hw.one hi (by rw [hE])
    rcases ht with ht | ht
    · rw [ht] at hP
      exact va_alen hx hb hK hP 0 2 rfl rfl rfl hd (kk H locs hw hS (fun v hv => by cases hv; trivial))
    · rw [ht] at hP
      exact va_alen hx hb hK hP 0 3 rfl rfl rfl hd (kk H locs hw hS (fun v hv => by cases hv; trivial))
/-- iastore -/
def ck_ist : gs_F ck_S := fun avs σ => match avs with
  | [.inr (some q), .inl j, .inl x] => (q.2 < σ.2.1 ∧ σ.1 q.2 = .inr (0, (ar (σ.1 q.2)).2, .inl (ri (σ.1 q.2))) ∧ vp_in j (ar (σ.1 q.2)).2, none, (u1 σ.1 q.2 (.inr (0, (ar (σ.1 q.2)).2, .inl (u1 (ri (σ.1 q.2)) j.toNatClampNeg x))), σ.2))
  | _ => (False, none, σ)
theorem ck_ist_ok (hx : p.tables.exec = Jvm.exec) (hb : c.code = cc) (hK : va_K D vwCl (sw_ty ca) s) : ck_ok b ca D p l e R s m args below meth c cc nL Qw (9, 0, 3, ck_ist) := by
  intro pc H locs lsA avs rest σ hd hlen hva hw hS hf h8 hsz kk
  match avs, hlen, hf, kk with
  | [.inl _, _, _], _, hf, _ => exact hf.elim
  | [.inr none, _, _], _, hf, _ => exact hf.elim
  | [.inr (some _), .inr _, _], _, hf, _ => exact hf.elim
  | [.inr (some _), .inl _, .inr _], _, hf, _ => exact hf.elim
  | [.inr (some (z, i)), .inl j, .inl x], _, hf, kk =>
    obtain ⟨hi, hE, hin⟩ := hf
    obtain ⟨n, hn⟩ : ∃ n, n = (ar (σ.1 i)).2 := ⟨_, rfl⟩
    obtain ⟨r, hr⟩ : ∃ r, r = ri (σ.1 i) := ⟨_, rfl⟩
    have hi : i < σ.2.1 := hi
    have hE : σ.1 i = .inr (0, (ar (σ.1 i)).2, .inl (ri (σ.1 i))) := hE
    have hin : vp_in j (ar (σ.1 i)).2 := hin
    have kk : ∀ (H1 : Heap) (locs1 : List Loc), ck_W b ca D (u1 σ.1 i (.inr (0, (ar (σ.1 i)).2, .inl (u1 (ri (σ.1 i)) j.toNatClampNeg x))), σ.2) H1 → va_S (ck_A b) s.heap H1 locs1 → (∀ v, (none : Option sw_V) = some v → sw_ov ck_V v) → W p l e R s m args below meth c H1 locs1 (ck_cz σ) (ck_sz σ) Qw (F0 m (pc + 1) lsA rest) := kk
    rw [← hn] at hE hin kk
    rw [← hr] at hE kk
    have hat := hw.2 i hi
    rw [hE] at hat
    have hat : H[b + i]? = some (vp_cell (ca 0) (n, .inl r)) := hat
    have key : W p l e R s m args below meth c H locs (ck_cz σ) (ck_sz σ) Qw (F0 m pc lsA (.int x :: .int j :: .ref (b + i) :: rest)) := by
      refine W.iast hx hb hat ((hK.2 0 _ rfl).1 n (fun i => .int (r i))) (fun q => by cases q) (by show ¬ (j < 0 ∨ (arrV _ _ _).slots.size ≤ _); rw [arrV_size]; exact hin) rfl rfl hd fun H1 e1 e2 e3 => ?_
      refine kk H1 _ (hw.put e2 ?_ e3) (hS.put e2 e3 (Nat.le_add_right b i)) (fun v hv => by cases hv)
      show H1[b + i]? = some (vp_cell _ _)
      rw [e1]
      rw [vp_cell_i, vp_cell_i, arrV_store]
      congr 2
      funext q
      by_cases hq : q = j.toNatClampNeg
      · subst hq
        simp [updV, u1]
      · simp [updV, u1, hq]
    exact key
/-- aastore -/
def ck_ast : gs_F ck_S := fun avs σ => match avs with
  | [.inr (some q), .inl j, .inr (some r)] => (q.2 < σ.2.1 ∧ r.2 < σ.2.1 ∧ σ.1 q.2 = .inr ((ar (σ.1 q.2)).1, (ar (σ.1 q.2)).2, .inr (rq (σ.1 q.2))) ∧ (((ar (σ.1 q.2)).1 = 3 ∧ (ob (σ.1 r.2)).1 = 1) ∨ ((ar (σ.1 q.2)).1 = 4 ∧ (ob (σ.1 r.2)).1 = 2)) ∧ vp_in j (ar (σ.1 q.2)).2, none, (u1 σ.1 q.2 (.inr ((ar (σ.1 q.2)).1, (ar (σ.1 q.2)).2, .inr (u1 (rq (σ.1 q.2)) j.toNatClampNeg (some r.2)))), σ.2))
  | _ => (False, none, σ)
theorem ck_ast_ok (hx : p.tables.exec = Jvm.exec) (hb : c.code = cc) (hK : va_K D vwCl (sw_ty ca) s) : ck_ok b ca D p l e R s m args below meth c cc nL Qw (10, 0, 3, ck_ast) := by
  intro pc H locs lsA avs rest σ hd hlen hva hw hS hf h8 hsz kk
  match avs, hlen, hf, kk with
  | [.inl _, _, _], _, hf, _ => exact hf.elim
  | [.inr none, _, _], _, hf, _ => exact hf.elim
  | [.inr (some _), .inr _, _], _, hf, _ => exact hf.elim
  | [.inr (some _), .inl _, .inl _], _, hf, _ => exact hf.elim
  | [.inr (some _), .inl _, .inr none], _, hf, _ => exact hf.elim
  | [.inr (some (z, i)), .inl j, .inr (some (z', k))], _, hf, kk =>
    obtain ⟨hi, hk, hE, ht, hin⟩ := hf
    obtain ⟨n, hn⟩ : ∃ n, n = (ar (σ.1 i)).2 := ⟨_, rfl⟩
    obtain ⟨t, htt⟩ : ∃ t, t = (ar (σ.1 i)).1 := ⟨_, rfl⟩
    obtain ⟨g, hg⟩ : ∃ g, g = rq (σ.1 i) := ⟨_, rfl⟩
    obtain ⟨c1, hc1⟩ : ∃ c1, c1 = (ob (σ.1 k)).1 := ⟨_, rfl⟩
    have hi : i < σ.2.1 := hi
    have hk : k < σ.2.1 := hk
    have hE : σ.1 i = .inr ((ar (σ.1 i)).1, (ar (σ.1 i)).2, .inr (rq (σ.1 i))) := hE
    have hin : vp_in j (ar (σ.1 i)).2 := hin
    have ht : ((ar (σ.1 i)).1 = 3 ∧ (ob (σ.1 k)).1 = 1) ∨ ((ar (σ.1 i)).1 = 4 ∧ (ob (σ.1 k)).1 = 2) := ht
    have kk : ∀ (H1 : Heap) (locs1 : List Loc), ck_W b ca D (u1 σ.1 i (.inr ((ar (σ.1 i)).1, (ar (σ.1 i)).2, .inr (u1 (rq (σ.1 i)) j.toNatClampNeg (some k)))), σ.2) H1 → va_S (ck_A b) s.heap H1 locs1 → (∀ v, (none : Option sw_V) = some v → sw_ov ck_V v) → W p l e R s m args below meth c H1 locs1 (ck_cz σ) (ck_sz σ) Qw (F0 m (pc + 1) lsA rest) := kk
    rw [← hn] at hE hin kk
    rw [← htt] at hE kk ht
    rw [← hg] at hE kk
    rw [← hc1] at ht
    have hF : σ.1 k = .inl (c1, (ob (σ.1 k)).2) := ob_of hc1.symm (by omega)
    have hlt : j.toNatClampNeg < n := Nat.not_le.mp fun q => hin (Or.inr q)
    have h0 : ¬ j < 0 := fun q => hin (Or.inl q)
    have hat := hw.2 i hi
    rw [hE] at hat
    have hat : H[b + i]? = some (vp_cell (ca t) (n, .inr (.inr (.inr (.inr (fun j => (g j).map (fun k => b + k))))))) := hat
    have hav := hw.2 k hk
    rw [hF] at hav
    obtain ⟨r', hr', cellV, g1, g2, g3, -⟩ := hav
    have key : ∃ (t0 : Nat) (r : vw_C), (sw_ty ca)[t0]? = some (ca t, .object r.1) ∧ vwCl[c1]? = some r := by
      rcases ht with ⟨h1, h2⟩ | ⟨h1, h2⟩
      · rw [h1, h2]
        exact ⟨2, sw_cl 1, rfl, rfl⟩
      · rw [h1, h2]
        exact ⟨3, sw_cl 2, rfl, rfl⟩
    obtain ⟨t0, r, ht0, hc⟩ := key
    have hcls := (hK.1 c1 r hc).2
    obtain ⟨kA, comp, k1, k2, k3, -⟩ := (hK.2 t0 _ ht0).2
    have hcomp : comp = D.1 c1 := Option.some.inj (k3.symm.trans hcls.1)
    subst hcomp
    obtain ⟨kC, hkC, -⟩ := hcls.2
    have key : W p l e R s m args below meth c H locs (ck_cz σ) (ck_sz σ) Qw (F0 m pc lsA (.ref (b + k) :: .int j :: .ref (b + i) :: rest)) := by
      refine W.aast hx hb hat (fun q h => by cases h) (fun h => by cases h) k1 k2 rfl hkC ⟨h0, by show _ < (arrV _ _ _).slots.size; rw [arrV_size]; exact hlt⟩ g1 (fun q h => by rw [g3] at h; cases h) (by rw [g2]; exact hkC) (by rw [g2]; exact va_assign hcls) rfl rfl hd fun H1 e1 e2 e3 => ?_
      refine kk H1 _ (hw.put e2 ?_ e3) (hS.put e2 e3 (Nat.le_add_right b i)) (fun v hv => by cases hv)
      show H1[b + i]? = some (vp_cell _ _)
      rw [e1]
      rw [vp_cell_q, vp_cell_q, arrV_store]
      congr 2
      funext q
      by_cases hq : q = j.toNatClampNeg
      · subst hq
        simp [updV, u1, va_rf]
      · simp [updV, u1, hq]
    exact key
/-- Object's constructor -/
def ck_obj : gs_F ck_S := fun avs σ => match avs with
  | [.inr (some _)] => (True, none, σ)
  | _ => (False, none, σ)
theorem ck_obj_ok (hx : p.tables.exec = Jvm.exec) (hb : c.code = cc) (hml : c.maxLocals = nL) {own : String} (hts : ∀ w ∈ sw_tbl, w.before args s = true) (hown : s.vm.findClass own = some m.cls) {idx : Nat} (hl : Cond.methodLink own idx Lib.objectInit ∈ sw_tbl) (hi : Cond.instanceMethod Lib.objectInit ∈ sw_tbl) (hc : Cond.code Lib.objectInit ⟨#[0xb1]⟩ 1 none ∈ sw_tbl) (hR : 1 ≤ R.frames ∧ 20 ≤ R.locals) : ck_ok b ca D p l e R s m args below meth c cc nL Qw (2, idx, 1, ck_obj) := by
  intro pc H locs lsA avs rest σ hd hlen hva hw hS hf h8 hsz kk
  match avs, hlen, hf, kk with
  | [.inl _], _, hf, _ => exact hf.elim
  | [.inr none], _, hf, _ => exact hf.elim
  | [.inr (some q)], _, hf, kk =>
    exact W.objInit (rest := rest) hx hb hown (hts _ hl) (hts _ hi) (hts _ hc) rfl (hsz.trans hml.symm) rfl hd hR.1 (by show 2 * 0 + _ + 12 ≤ R.locals; omega) (kk H locs hw hS (fun v hv => by cases hv))
/-- the greater of two -/
def ck_max (rc rs : Nat) : gs_F ck_S := fun avs σ => match avs with
  | [.inl x, .inl y] => (σ.2.2.1 ≤ rc ∧ σ.2.2.2 ≤ rs, some (.inl (if x < y then y else x)), σ)
  | _ => (False, none, σ)
def ck_min (rc rs : Nat) : gs_F ck_S := fun avs σ => match avs with
  | [.inl x, .inl y] => (σ.2.2.1 ≤ rc ∧ σ.2.2.2 ≤ rs, some (.inl (if y < x then y else x)), σ)
  | _ => (False, none, σ)
theorem ck_max_ok {idx : Nat} (S : ∃ own, CallFix p m c cc nL s args sw_tbl own ∧ Cond.methodLink own idx Lib.Math.max.name ∈ sw_tbl) (hR : 1 ≤ R.frames ∧ 21 ≤ R.locals) : ck_ok b ca D p l e R s m args below meth c cc nL Qw (1, idx, 2, ck_max R.cells R.slots) := by
  obtain ⟨own, S, hw0⟩ := S
  intro pc H locs lsA avs rest σ hd hlen hva hw hS hf h8 hsz kk
  match avs, hlen, hf, kk with
  | [.inr _, _], _, hf, _ => exact hf.elim
  | [.inl _, .inr _], _, hf, _ => exact hf.elim
  | [.inl x, .inl y], _, hf, kk =>
    exact va_mmax (rest := rest) S.1 S.2.1 (S.2.2.1.trans hsz.symm) S.2.2.2.1 (S.2.2.2.2 _ hw0) (S.2.2.2.2 _ (by decide +kernel)) (S.2.2.2.2 _ (by decide +kernel)) (S.2.2.2.2 _ (by decide +kernel)) hR.1 (by have := hR.2; omega) hf.1 hf.2 hd (kk H locs hw hS (fun v hv => by cases hv; trivial))
theorem ck_min_ok {idx : Nat} (S : ∃ own, CallFix p m c cc nL s args sw_tbl own ∧ Cond.methodLink own idx Lib.Math.min.name ∈ sw_tbl) (hR : 1 ≤ R.frames ∧ 21 ≤ R.locals) : ck_ok b ca D p l e R s m args below meth c cc nL Qw (1, idx, 2, ck_min R.cells R.slots) := by
  obtain ⟨own, S, hw0⟩ := S
  intro pc H locs lsA avs rest σ hd hlen hva hw hS hf h8 hsz kk
  match avs, hlen, hf, kk with
  | [.inr _, _], _, hf, _ => exact hf.elim
  | [.inl _, .inr _], _, hf, _ => exact hf.elim
  | [.inl x, .inl y], _, hf, kk =>
    exact va_mmin (rest := rest) S.1 S.2.1 (S.2.2.1.trans hsz.symm) S.2.2.2.1 (S.2.2.2.2 _ hw0) (S.2.2.2.2 _ (by decide +kernel)) (S.2.2.2.2 _ (by decide +kernel)) (S.2.2.2.2 _ (by decide +kernel)) hR.1 (by have := hR.2; omega) hf.1 hf.2 hd (kk H locs hw hS (fun v hv => by cases hv; trivial))
end ckRows
