/-! The rows of the heap over the world -/
section swRows
variable {p : Program} {l : Launch} {e : Env} {R : Room} {s : State} {m : MethodId} {args : Array Value} {below : List Frame} {meth : Method} {c : Code} {H : Heap} {locs : List Loc} {cells slots : Nat} {Q : State → Prop}
variable {cc : ByteArray} {pc : Nat} {ls : Array Slot} {rest : List Value} {ad : sw_A} {V : Nat → Nat → Prop} {rf : sw_R} {ln : sw_A} {ca : Nat → ClassId} {D : va_G} {σ : sw_S}
theorem sw_en_o {ck k : Nat} {r : Nat → Int32} {ds : List Nat} (hl : sw_lay ck = .inl ds) : sw_en ad rf ln ca ck k r = .inr (ck, sw_fs ad rf ck k r ds 0) := by
  unfold sw_en
  rw [hl]
theorem sw_en_a {ck k t : Nat} {r : Nat → Int32} (hl : sw_lay ck = .inr t) (ht : t < 2) : sw_en ad rf ln ca ck k r = .inl (ca t, ln ck k, .inl r) := by
  unfold sw_en
  rw [hl]
  have h2 : Nat.blt t 2 = true := Nat.ble_eq.mpr ht
  simp only [h2, cond_true]
theorem sw_en_q {ck k t : Nat} {r : Nat → Int32} (hl : sw_lay ck = .inr t) (ht : 2 ≤ t) : sw_en ad rf ln ca ck k r = .inl (ca t, ln ck k, .inr (.inr (.inr (.inr (fun j => some (ad (t - 2) (rf ck k j))))))) := by
  unfold sw_en
  rw [hl]
  have h2 : Nat.blt t 2 = false := by
    rw [← Bool.not_eq_true]
    intro h
    exact absurd (Nat.le_of_ble_eq_true h) (by omega)
  simp only [h2, cond_false]
theorem sw_getf (hx : p.tables.exec = Jvm.exec) (hb : c.code = cc) {own : String} {idx : Nat} (hts : ∀ w ∈ sw_tbl, w.before args s = true) (hown : s.vm.findClass own = some m.cls) (hK : va_K D vwCl (sw_ty ca) s) (hw : sw_w ad V rf ln ca D σ H) {ck k j d : Nat} {ds : List Nat} (hV : V ck k) (hl : sw_lay ck = .inl ds) (hd : sw_nth ds j = some d)
    (hlink : Cond.fieldLink own idx ((sw_cl ck).2.1 j).1 ((sw_cl ck).2.1 j).2.1 ((sw_cl ck).2.1 j).2.2.1 ∈ sw_tbl) (hdg : decode cc pc = .ok (.getfield idx, 3))
    (kk : W p l e R s m args below meth c H locs cells slots Q (F0 m (pc + 3) ls (sw_fv ad rf ck k (σ ck k) j d :: rest))) : W p l e R s m args below meth c H locs cells slots Q (F0 m pc ls (.ref (ad ck k) :: rest)) := by
  have hP := hw.one hV (sw_en_o hl)
  refine va_get (C := (sw_cl ck).1) (T := (sw_cl ck).2.1) (N := (sw_cl ck).2.2) (ci := ck) hx hb hts (sw_cl_in (sw_lay_lt hl)) hown hK hP 0 rfl (sw_cl_at (sw_lay_lt hl)) j (sw_f_lt hl hd) (hts _ hlink) (fun _ h => h) ?_ hdg kk
  rw [sw_fs_at, hd, Nat.zero_add]
  rfl
theorem sw_putf (hx : p.tables.exec = Jvm.exec) (hb : c.code = cc) {own : String} {idx : Nat} (hts : ∀ w ∈ sw_tbl, w.before args s = true) (hown : s.vm.findClass own = some m.cls) (hK : va_K D vwCl (sw_ty ca) s) (hG : sw_wf ad V rf ln) (hw : sw_w ad V rf ln ca D σ H) (hS : va_S (sw_ad ad V) s.heap H locs) {ck k j d : Nat} {ds : List Nat} {x : Int32} (hV : V ck k) (hl : sw_lay ck = .inl ds) (hd : sw_nth ds j = some d) (hd2 : d = 0 ∨ (d = 1 ∧ sw_bo x))
    (hlink : Cond.fieldLink own idx ((sw_cl ck).2.1 j).1 ((sw_cl ck).2.1 j).2.1 ((sw_cl ck).2.1 j).2.2.1 ∈ sw_tbl) (hdg : decode cc pc = .ok (.putfield idx, 3))
    (kk : ∀ (H1 : Heap) (locs1 : List Loc), sw_w ad V rf ln ca D (sw_up σ ck k j x) H1 → va_S (sw_ad ad V) s.heap H1 locs1 → W p l e R s m args below meth c H1 locs1 cells slots Q (F0 m (pc + 3) ls rest)) : W p l e R s m args below meth c H locs cells slots Q (F0 m pc ls (.int x :: .ref (ad ck k) :: rest)) := by
  have h9 := sw_lay_lt hl
  have hj := sw_f_lt hl hd
  have hty := sw_f_ty hl hd
  have hpd := sw_cl_ty h9 j hj
  have hfin : ((sw_cl ck).2.1 j).2.2.2 = false := by
    rcases hd2 with h | h
    · exact (hty.1 h).2
    · exact (hty.2 h.1).2
  have hnf : narrow (sw_tc ck j) (.int x) = .int x ∧ fits (sw_tc ck j) (.int x) = true := by
    rcases hd2 with h | ⟨h, hbx⟩
    · rw [(hty.1 h).1]
      exact ⟨rfl, rfl⟩
    · rw [(hty.2 h).1]
      rcases hbx with rfl | rfl <;> exact ⟨rfl, rfl⟩
  have hap := va_apart (own := own) hts (sw_cl_in h9) (sw_tc ck) (sw_cl_ty h9) (sw_cl_nm h9) hK (sw_cl_at h9)
  have hat := hw ck k hV
  rw [sw_en_o hl] at hat
  obtain ⟨r, h1, cell, q1, q2, q3, q4⟩ := hat
  have hr : r = sw_cl ck := Option.some.inj (h1.symm.trans (sw_cl_at h9))
  subst hr
  obtain ⟨hSl, hfc, kC, hkC, hkind⟩ := hK.1 ck _ (sw_cl_at h9)
  obtain ⟨cf, kf, fi, f, hi, hsl⟩ := hSl j hj
  have hlay := hts _ (sw_cl_in h9 _ (u_in_lay hj))
  unfold u_lay at hlay
  rw [if_neg (by rw [hfin]; decide)] at hlay
  have hst := (u_facts hfc hkC (u_lays hts (sw_cl_in h9) hj) hi).1
  have h6 := u_store hfc hkC hkind hlay hi hpd hnf.1 hnf.2
  refine W.putK hx hb (f := f) ⟨hown, hts _ hlink, ⟨_, _, _, hi⟩, hst⟩ (by rw [q2]; exact h6) q1 q3 (by rw [hsl]; exact k2_hasslot (q4 j hj)) rfl rfl hdg fun H' e1 e2 e3 => ?_
  rw [hsl] at e1 ⊢
  refine kk H' _ (hw.put hG hV ?_ e3) (hS.put e2 e3 ⟨ck, k, hV, rfl⟩)
  rw [sw_en_o hl]
  refine ⟨_, sw_cl_at h9, t_OB.to (V := updV (vp_V (sw_fs ad rf ck k (σ ck k) ds 0)) j (.int x)) ⟨_, e1, q2, q3, t_set q4 hap hj (.int x)⟩ (fun i _ => ?_)⟩
  have hd3 : Nat.blt d 3 = true := by rcases hd2 with h | h <;> (first | rw [h] | rw [h.1]) <;> rfl
  simp only [vp_V, List.getD_eq_getElem?_getD, sw_fs_at, Nat.zero_add, updV]
  by_cases hij : i = j
  · subst hij
    simp only [if_true, hd, Option.map_some, Option.getD_some, sw_fv, hd3, cond_true, upd]
  · rw [if_neg hij]
    have : ∀ d', sw_fv ad rf ck k (σ ck k) i d' = sw_fv ad rf ck k (upd (σ ck k) j x) i d' := fun d' => by simp only [sw_fv, upd, if_neg hij]
    simp only [this]
theorem sw_ald (hx : p.tables.exec = Jvm.exec) (hb : c.code = cc) (hK : va_K D vwCl (sw_ty ca) s) (hw : sw_w ad V rf ln ca D σ H) {ck k : Nat} {j : Int32} (hV : V ck k) (hin : vp_in j (ln ck k))
    (hh : (sw_lay ck = .inr 0 ∧ decode cc pc = .ok (.iaload, 1)) ∨ (sw_lay ck = .inr 1 ∧ decode cc pc = .ok (.baload, 1)))
    (kk : W p l e R s m args below meth c H locs cells slots Q (F0 m (pc + 1) ls (.int (σ ck k j.toNatClampNeg) :: rest))) : W p l e R s m args below meth c H locs cells slots Q (F0 m pc ls (.int j :: .ref (ad ck k) :: rest)) := by
  rcases hh with ⟨hl, hdg⟩ | ⟨hl, hdg⟩
  · exact va_iald hx hb hK (hw.one hV (sw_en_a hl (by decide))) 0 0 rfl rfl hin hdg kk
  · exact va_zald hx hb hK (hw.one hV (sw_en_a hl (by decide))) 0 1 rfl rfl hin hdg kk
theorem sw_lay_q {ck t : Nat} (h17 : ck < 17) (hl : sw_lay ck = .inr t) (ht : 2 ≤ t) : t = 3 ∨ t = 4 := by
  match ck, h17, hl with
  | 9, _, hl => cases hl; exact absurd ht (by decide)
  | 10, _, hl => cases hl; exact absurd ht (by decide)
  | 11, _, hl => cases hl; exact absurd ht (by decide)
  | 12, _, hl => cases hl; exact absurd ht (by decide)
  | 13, _, hl => cases hl; exact Or.inr rfl
  | 14, _, hl => cases hl; exact Or.inl rfl
  | 15, _, hl => cases hl; exact absurd ht (by decide)
  | 16, _, hl => cases hl; exact absurd ht (by decide)
  | n + 17, h, _ => exact absurd h (by omega)
theorem sw_aldq (hx : p.tables.exec = Jvm.exec) (hb : c.code = cc) (hK : va_K D vwCl (sw_ty ca) s) (hG : sw_wf ad V rf ln) (hw : sw_w ad V rf ln ca D σ H) {ck k t : Nat} {j : Int32} (hV : V ck k) (hin : vp_in j (ln ck k)) (hl : sw_lay ck = .inr t) (ht : 2 ≤ t) (hdg : decode cc pc = .ok (.aaload, 1))
    (kk : W p l e R s m args below meth c H locs cells slots Q (F0 m (pc + 1) ls (.ref (ad (t - 2) (rf ck k j.toNatClampNeg)) :: rest))) : W p l e R s m args below meth c H locs cells slots Q (F0 m pc ls (.int j :: .ref (ad ck k) :: rest)) := by
  have h17 := hG.2.2.2 ck k hV
  have hP := hw.one hV (sw_en_q hl ht)
  rcases sw_lay_q h17 hl ht with rfl | rfl
  · exact va_aldq hx hb hK hP 0 2 rfl rfl hin hdg kk
  · exact va_aldq hx hb hK hP 0 3 rfl rfl hin hdg kk
theorem sw_len (hx : p.tables.exec = Jvm.exec) (hb : c.code = cc) (hK : va_K D vwCl (sw_ty ca) s) (hG : sw_wf ad V rf ln) (hw : sw_w ad V rf ln ca D σ H) {ck k t : Nat} (hV : V ck k) (hl : sw_lay ck = .inr t) (hdg : decode cc pc = .ok (.arraylength, 1))
    (kk : W p l e R s m args below meth c H locs cells slots Q (F0 m (pc + 1) ls (.int (nI (ln ck k)) :: rest))) : W p l e R s m args below meth c H locs cells slots Q (F0 m pc ls (.ref (ad ck k) :: rest)) := by
  have h17 := hG.2.2.2 ck k hV
  by_cases ht : t < 2
  · have hP := hw.one hV (sw_en_a hl ht)
    rcases (show t = 0 ∨ t = 1 by omega) with rfl | rfl
    · exact va_alen hx hb hK hP 0 0 rfl rfl rfl hdg kk
    · exact va_alen hx hb hK hP 0 1 rfl rfl rfl hdg kk
  · have hP := hw.one hV (sw_en_q hl (by omega))
    rcases sw_lay_q h17 hl (by omega) with rfl | rfl
    · exact va_alen hx hb hK hP 0 2 rfl rfl rfl hdg kk
    · exact va_alen hx hb hK hP 0 3 rfl rfl rfl hdg kk
theorem sw_ast (hx : p.tables.exec = Jvm.exec) (hb : c.code = cc) (hK : va_K D vwCl (sw_ty ca) s) (hG : sw_wf ad V rf ln) (hw : sw_w ad V rf ln ca D σ H) (hS : va_S (sw_ad ad V) s.heap H locs) {ck k : Nat} {j x : Int32} (hV : V ck k) (hin : vp_in j (ln ck k))
    (hh : (sw_lay ck = .inr 0 ∧ decode cc pc = .ok (.iastore, 1)) ∨ (sw_lay ck = .inr 1 ∧ sw_bo x ∧ decode cc pc = .ok (.bastore, 1)))
    (kk : ∀ (H1 : Heap) (locs1 : List Loc), sw_w ad V rf ln ca D (sw_up σ ck k j.toNatClampNeg x) H1 → va_S (sw_ad ad V) s.heap H1 locs1 → W p l e R s m args below meth c H1 locs1 cells slots Q (F0 m (pc + 1) ls rest)) : W p l e R s m args below meth c H locs cells slots Q (F0 m pc ls (.int x :: .int j :: .ref (ad ck k) :: rest)) := by
  rcases hh with ⟨hl, hdg⟩ | ⟨hl, hbx, hdg⟩
  · have hat := hw ck k hV
    rw [sw_en_a hl (by decide)] at hat
    refine W.iast hx hb hat ((hK.2 0 _ rfl).1 (ln ck k) (fun i => .int (σ ck k i))) (fun q => by cases q) (by show ¬ (j < 0 ∨ (arrV _ _ _).slots.size ≤ _); rw [arrV_size]; exact hin) rfl rfl hdg fun H1 e1 e2 e3 => ?_
    refine kk H1 _ (hw.put hG hV ?_ e3) (hS.put e2 e3 ⟨ck, k, hV, rfl⟩)
    rw [sw_en_a hl (by decide)]
    show H1[ad ck k]? = some (vp_cell _ _)
    rw [e1]
    rw [vp_cell_i, vp_cell_i, arrV_store]
    congr 2
    funext q
    by_cases hq : q = j.toNatClampNeg
    · subst hq
      simp [updV, upd]
    · simp [updV, upd, hq]
  · have hat := hw ck k hV
    rw [sw_en_a hl (by decide)] at hat
    refine W.zast hx hb hat ((hK.2 1 _ rfl).1 (ln ck k) (fun i => .int (σ ck k i))) (fun q => by cases q) (by show ¬ (j < 0 ∨ (arrV _ _ _).slots.size ≤ _); rw [arrV_size]; exact hin) rfl rfl hdg fun H1 e1 e2 e3 => ?_
    have hnx : narrow .boolean (.int x) = .int x := by rcases hbx with rfl | rfl <;> rfl
    rw [hnx] at e1
    refine kk H1 _ (hw.put hG hV ?_ e3) (hS.put e2 e3 ⟨ck, k, hV, rfl⟩)
    rw [sw_en_a hl (by decide)]
    show H1[ad ck k]? = some (vp_cell _ _)
    rw [e1]
    rw [vp_cell_i, vp_cell_i, arrV_store]
    congr 2
    funext q
    by_cases hq : q = j.toNatClampNeg
    · subst hq
      simp [updV, upd]
    · simp [updV, upd, hq]
/-! locals -/
def sw_lh (ad : sw_A) (nL : Nat) (lsA : Array Slot) (L : sw_L) : Prop := lsA.size = nL ∧ lv_wf lsA ∧ L.length = nL ∧ ∀ (i : Nat) (v : sw_V), sw_get L i = some v → lsA[i]? = some (.val (sw_em ad v))
def sw_lp (ad : sw_A) : sw_L → Nat → List (Nat × Value)
  | [], _ => []
  | none :: l, i => sw_lp ad l (i + 1)
  | some v :: l, i => (i, sw_em ad v) :: sw_lp ad l (i + 1)
theorem sw_lp_in (ad : sw_A) : ∀ (L : sw_L) (i0 i : Nat) (v : sw_V), sw_get L i = some v → (i0 + i, sw_em ad v) ∈ sw_lp ad L i0
  | [], _, _, _, h => by cases h
  | none :: l, i0, 0, v, h => by cases h
  | some w :: l, i0, 0, v, h => by cases h; exact List.mem_cons_self
  | none :: l, i0, i + 1, v, h => by
    have := sw_lp_in ad l (i0 + 1) i v h
    rw [show i0 + (i + 1) = i0 + 1 + i by omega]
    exact this
  | some w :: l, i0, i + 1, v, h => by
    have := sw_lp_in ad l (i0 + 1) i v h
    rw [show i0 + (i + 1) = i0 + 1 + i by omega]
    exact List.mem_cons_of_mem _ this
theorem sw_lp_of (ad : sw_A) : ∀ (L : sw_L) (i0 : Nat) (q : Nat × Value), q ∈ sw_lp ad L i0 → ∃ (i : Nat) (v : sw_V), sw_get L i = some v ∧ q = (i0 + i, sw_em ad v)
  | [], _, _, h => by cases h
  | none :: l, i0, q, h => by
    obtain ⟨i, v, h1, h2⟩ := sw_lp_of ad l (i0 + 1) q h
    exact ⟨i + 1, v, h1, by rw [h2, show i0 + 1 + i = i0 + (i + 1) by omega]⟩
  | some w :: l, i0, q, h => by
    rcases List.mem_cons.mp h with rfl | h
    · exact ⟨0, w, rfl, rfl⟩
    · obtain ⟨i, v, h1, h2⟩ := sw_lp_of ad l (i0 + 1) q h
      exact ⟨i + 1, v, h1, by rw [h2, show i0 + 1 + i = i0 + (i + 1) by omega]⟩
theorem sw_lh.has {nL : Nat} {L : sw_L} (h : sw_lh ad nL ls L) : lv_has ls nL (sw_lp ad L 0) := ⟨h.1, h.2.1, fun q hq => by
  obtain ⟨i, v, h1, rfl⟩ := sw_lp_of ad L 0 q hq
  rw [Nat.zero_add]
  exact h.2.2.2 i v h1⟩
theorem sw_set_len : ∀ (L : sw_L) (i : Nat) (v : sw_V), (sw_set L i v).length = L.length
  | [], _, _ => rfl
  | _ :: l, 0, _ => rfl
  | _ :: l, i + 1, v => congrArg Nat.succ (sw_set_len l i v)
theorem sw_get_set : ∀ (L : sw_L) (i j : Nat) (v : sw_V), sw_get (sw_set L i v) j = if j = i ∧ i < L.length then some v else sw_get L j
  | [], i, j, v => by simp [sw_set, sw_get]
  | x :: l, 0, 0, v => by simp [sw_set, sw_get]
  | x :: l, 0, j + 1, v => by simp [sw_set, sw_get]
  | x :: l, i + 1, 0, v => by simp [sw_set, sw_get]
  | x :: l, i + 1, j + 1, v => by
    simp only [sw_set, sw_get, sw_get_set l i j v, List.length_cons, Nat.add_right_cancel_iff, Nat.add_lt_add_iff_right]
theorem sw_get_lt : ∀ {L : sw_L} {i : Nat} {v : sw_V}, sw_get L i = some v → i < L.length
  | [], _, _, h => by cases h
  | _ :: l, 0, _, _ => Nat.zero_lt_succ _
  | _ :: l, i + 1, _, h => Nat.succ_lt_succ (sw_get_lt (L := l) h)
/-- behind a store into a local -/
theorem sw_lh.set {nL i : Nat} {L : sw_L} {v : sw_V} {ls' : Array Slot} (h : sw_lh ad nL ls L) (hi : i < nL) (h' : lv_has ls' nL ((i, sw_em ad v) :: (sw_lp ad L 0).filter (fun q => !(q.1 == i) && !(q.1 + 1 == i && q.2.category == 2)))) : sw_lh ad nL ls' (sw_set L i v) := by
  refine ⟨h'.1, h'.2.1, by rw [sw_set_len]; exact h.2.2.1, fun j w hj => ?_⟩
  rw [sw_get_set] at hj
  by_cases hji : j = i
  · subst hji
    rw [if_pos ⟨rfl, by rw [h.2.2.1]; exact hi⟩] at hj
    cases hj
    exact h'.2.2 _ List.mem_cons_self
  · rw [if_neg (fun z => hji z.1)] at hj
    refine h'.2.2 (j, sw_em ad w) (List.mem_cons_of_mem _ (List.mem_filter.mpr ⟨by have := sw_lp_in ad L 0 j w hj; rwa [Nat.zero_add] at this, ?_⟩))
    simp [hji, sw_em_cat]
end swRows
