/-! The world: static addresses, references, lengths; a store of ints -/
def sw_tbl : List Cond := lw_tbl.filter goodWord
theorem sw_tbl_lw {w : Cond} (h : w ∈ sw_tbl) : w ∈ lw_tbl := (List.mem_filter.mp h).1
theorem sw_tbl_good : GoodIn sw_tbl sw_tbl := fun w h => ⟨h, good_of_word (List.mem_filter.mp h).2⟩
theorem sw_good_cons {w : Cond} (h : w ∈ sw_tbl) : GoodIn sw_tbl (w :: sw_tbl) := fun v hv => by
  rcases List.mem_cons.mp hv with rfl | h2
  · exact sw_tbl_good _ h
  · exact sw_tbl_good _ h2
def sw_em (ad : sw_A) : sw_V → Value
  | .inl x => .int x
  | .inr none => .null
  | .inr (some q) => .ref (ad q.1 q.2)
def sw_ov (V : Nat → Nat → Prop) : sw_V → Prop
  | .inl _ => True
  | .inr none => True
  | .inr (some q) => V q.1 q.2
theorem sw_em_cat (ad : sw_A) (v : sw_V) : (sw_em ad v).category = 1 := by
  rcases v with x | _ | q <;> rfl
def sw_wf (ad : sw_A) (V : Nat → Nat → Prop) (rf : sw_R) (ln : sw_A) : Prop :=
  (∀ c k c' k', V c k → V c' k' → ad c k = ad c' k' → c = c' ∧ k = k') ∧
  (∀ c k ds j d, V c k → sw_lay c = .inl ds → sw_nth ds j = some d → 3 ≤ d → V (d - 3) (rf c k j)) ∧
  (∀ c k t j, V c k → sw_lay c = .inr t → 2 ≤ t → j < ln c k → V (t - 2) (rf c k j)) ∧
  (∀ c k, V c k → c < 17)
def sw_fv (ad : sw_A) (rf : sw_R) (c k : Nat) (r : Nat → Int32) (j d : Nat) : Value := bif Nat.blt d 3 then .int (r j) else .ref (ad (d - 3) (rf c k j))
def sw_fs (ad : sw_A) (rf : sw_R) (c k : Nat) (r : Nat → Int32) : List Nat → Nat → List Value
  | [], _ => []
  | d :: l, j => sw_fv ad rf c k r j d :: sw_fs ad rf c k r l (j + 1)
def sw_en (ad : sw_A) (rf : sw_R) (ln : sw_A) (ca : Nat → ClassId) (c k : Nat) (r : Nat → Int32) : va_E := match sw_lay c with
  | .inl ds => .inr (c, sw_fs ad rf c k r ds 0)
  | .inr t => bif Nat.blt t 2 then .inl (ca t, ln c k, .inl r) else .inl (ca t, ln c k, .inr (.inr (.inr (.inr (fun j => some (ad (t - 2) (rf c k j)))))))
def sw_w (ad : sw_A) (V : Nat → Nat → Prop) (rf : sw_R) (ln : sw_A) (ca : Nat → ClassId) (D : va_G) (σ : sw_S) (H : Heap) : Prop := ∀ c k, V c k → va_at D vwCl (ad c k, sw_en ad rf ln ca c k (σ c k)) H
def sw_ty (ca : Nat → ClassId) : List (ClassId × FieldType) := [(ca 0, .int), (ca 1, .boolean), (ca 3, .object "StreamWires$Flow"), (ca 4, .object "StreamWires$Frame")]
def sw_ad (ad : sw_A) (V : Nat → Nat → Prop) : Nat → Prop := fun q => ∃ c k, V c k ∧ ad c k = q
def sw_cl : Nat → vw_C
  | 0 => (RX0, TX0, 4)
  | 1 => (RX1, TX1, 13)
  | 2 => (RX2, TX2, 2)
  | 3 => (RX3, TX3, 3)
  | 4 => (RX4, TX4, 6)
  | 5 => (RX5, TX5, 4)
  | 6 => (RX6, TX6, 15)
  | 7 => (RX7, TX7, 2)
  | _ => (RX8, TX8, 40)
def sw_tc : Nat → Nat → FieldType
  | 0 => tyX0
  | 1 => tyX1
  | 2 => tyX2
  | 3 => tyX3
  | 4 => tyX4
  | 5 => tyX5
  | 6 => tyX6
  | 7 => tyX7
  | _ => tyX8
theorem sw_lay_lt {c : Nat} {ds : List Nat} (h : sw_lay c = .inl ds) : c < 9 := by
  match c, h with
  | 0, _ => decide
  | 1, _ => decide
  | 2, _ => decide
  | 3, _ => decide
  | 4, _ => decide
  | 5, _ => decide
  | 6, _ => decide
  | 7, _ => decide
  | 8, _ => decide
  | 9, h => cases h
  | 10, h => cases h
  | 11, h => cases h
  | 12, h => cases h
  | 13, h => cases h
  | 14, h => cases h
  | 15, h => cases h
  | 16, h => cases h
  | n + 17, h => cases h
theorem sw_9 {P : Nat → Prop} (h0 : P 0) (h1 : P 1) (h2 : P 2) (h3 : P 3) (h4 : P 4) (h5 : P 5) (h6 : P 6) (h7 : P 7) (h8 : P 8) {c : Nat} (h : c < 9) : P c := by
  match c, h with
  | 0, _ => exact h0
  | 1, _ => exact h1
  | 2, _ => exact h2
  | 3, _ => exact h3
  | 4, _ => exact h4
  | 5, _ => exact h5
  | 6, _ => exact h6
  | 7, _ => exact h7
  | 8, _ => exact h8
theorem sw_cl_at {c : Nat} (h : c < 9) : vwCl[c]? = some (sw_cl c) := sw_9 (P := fun c => vwCl[c]? = some (sw_cl c)) rfl rfl rfl rfl rfl rfl rfl rfl rfl h
theorem sw_cl_in {c : Nat} (h : c < 9) : ∀ w ∈ u_ws (sw_cl c).1 (sw_cl c).2.1 (sw_cl c).2.2, w ∈ sw_tbl :=
  sw_9 (P := fun c => ∀ w ∈ u_ws (sw_cl c).1 (sw_cl c).2.1 (sw_cl c).2.2, w ∈ sw_tbl) (by decide +kernel) (by decide +kernel) (by decide +kernel) (by decide +kernel) (by decide +kernel) (by decide +kernel) (by decide +kernel) (by decide +kernel) (by decide +kernel) h
theorem sw_cl_ty {c : Nat} (h : c < 9) : ∀ k, k < (sw_cl c).2.2 → parseFieldDescriptor ((sw_cl c).2.1 k).2.2.1 = some (sw_tc c k) :=
  sw_9 (P := fun c => ∀ k, k < (sw_cl c).2.2 → parseFieldDescriptor ((sw_cl c).2.1 k).2.2.1 = some (sw_tc c k)) tyX0_ok tyX1_ok tyX2_ok tyX3_ok tyX4_ok tyX5_ok tyX6_ok tyX7_ok tyX8_ok h
theorem sw_cl_nm {c : Nat} (h : c < 9) : ∀ a, a < (sw_cl c).2.2 → ∀ b, b < (sw_cl c).2.2 → a ≠ b → ((sw_cl c).2.1 a).2.1 ≠ ((sw_cl c).2.1 b).2.1 :=
  sw_9 (P := fun c => ∀ a, a < (sw_cl c).2.2 → ∀ b, b < (sw_cl c).2.2 → a ≠ b → ((sw_cl c).2.1 a).2.1 ≠ ((sw_cl c).2.1 b).2.1) nmX0 nmX1 nmX2 nmX3 nmX4 nmX5 nmX6 nmX7 nmX8 h
def sw_fok (c : Nat) : Bool := match sw_lay c with
  | .inl ds => Nat.beq ds.length (sw_cl c).2.2 && (List.range (sw_cl c).2.2).all (fun j => match sw_nth ds j with
    | some 0 => decide (sw_tc c j = .int ∧ ((sw_cl c).2.1 j).2.2.2 = false)
    | some 1 => decide (sw_tc c j = .boolean ∧ ((sw_cl c).2.1 j).2.2.2 = false)
    | some _ => true
    | none => false)
  | _ => false
theorem sw_fok_all : ∀ c, c < 9 → sw_fok c = true := by decide +kernel
theorem sw_nth_lt : ∀ {l : List Nat} {j d : Nat}, sw_nth l j = some d → j < l.length
  | [], _, _, h => by cases h
  | _ :: l, 0, _, _ => Nat.zero_lt_succ _
  | _ :: l, j + 1, _, h => Nat.succ_lt_succ (sw_nth_lt (l := l) h)
theorem sw_f_lt {c j d : Nat} {ds : List Nat} (hl : sw_lay c = .inl ds) (hd : sw_nth ds j = some d) : j < (sw_cl c).2.2 := by
  have h := sw_fok_all c (sw_lay_lt hl)
  unfold sw_fok at h
  rw [hl] at h
  simp only [Bool.and_eq_true] at h
  rw [← Nat.eq_of_beq_eq_true h.1]
  exact sw_nth_lt hd
theorem sw_f_ty {c j d : Nat} {ds : List Nat} (hl : sw_lay c = .inl ds) (hd : sw_nth ds j = some d) : (d = 0 → sw_tc c j = .int ∧ ((sw_cl c).2.1 j).2.2.2 = false) ∧ (d = 1 → sw_tc c j = .boolean ∧ ((sw_cl c).2.1 j).2.2.2 = false) := by
  have hj := sw_f_lt hl hd
  have h := sw_fok_all c (sw_lay_lt hl)
  unfold sw_fok at h
  rw [hl] at h
  simp only [Bool.and_eq_true] at h
  have h2 := List.all_eq_true.mp h.2 j (List.mem_range.mpr hj)
  rw [hd] at h2
  refine ⟨fun e => ?_, fun e => ?_⟩
  · subst e
    exact of_decide_eq_true h2
  · subst e
    exact of_decide_eq_true h2
theorem sw_fs_at (ad : sw_A) (rf : sw_R) (c k : Nat) (r : Nat → Int32) : ∀ (ds : List Nat) (j0 j : Nat), (sw_fs ad rf c k r ds j0)[j]? = (sw_nth ds j).map (fun d => sw_fv ad rf c k r (j0 + j) d)
  | [], _, _ => by simp [sw_fs, sw_nth]
  | d :: l, j0, 0 => by simp [sw_fs, sw_nth]
  | d :: l, j0, j + 1 => by
    simp only [sw_fs, sw_nth, List.getElem?_cons_succ]
    rw [sw_fs_at ad rf c k r l (j0 + 1) j]
    rw [show j0 + 1 + j = j0 + (j + 1) by omega]
theorem sw_w.one {ad : sw_A} {V : Nat → Nat → Prop} {rf : sw_R} {ln : sw_A} {ca : Nat → ClassId} {D : va_G} {σ : sw_S} {H : Heap} (h : sw_w ad V rf ln ca D σ H) {c k : Nat} (hV : V c k) {E : va_E} (hE : sw_en ad rf ln ca c k (σ c k) = E) : va_P D vwCl [(ad c k, E)] H := by
  intro i q hq
  subst hE
  match i, hq with
  | 0, hq => cases hq; exact h c k hV
  | i + 1, hq => simp at hq
theorem sw_up_self (σ : sw_S) (c k j : Nat) (x : Int32) : sw_up σ c k j x c k = upd (σ c k) j x := by
  funext i
  simp only [sw_up, true_and, upd]
theorem sw_up_ne (σ : sw_S) (c k j : Nat) (x : Int32) {c' k' : Nat} (h : ¬ (c' = c ∧ k' = k)) : sw_up σ c k j x c' k' = σ c' k' := by
  funext i
  simp only [sw_up]
  rw [if_neg]
  exact fun z => h ⟨z.1, z.2.1⟩
/-- a cell is written: the world with the new entry -/
theorem sw_w.put {ad : sw_A} {V : Nat → Nat → Prop} {rf : sw_R} {ln : sw_A} {ca : Nat → ClassId} {D : va_G} {σ : sw_S} {H H1 : Heap} (hG : sw_wf ad V rf ln) (h : sw_w ad V rf ln ca D σ H) {c k j : Nat} {x : Int32} (hV : V c k) (he : va_at D vwCl (ad c k, sw_en ad rf ln ca c k (upd (σ c k) j x)) H1) (oq : ∀ q : Nat, q ≠ ad c k → H1[q]? = H[q]?) : sw_w ad V rf ln ca D (sw_up σ c k j x) H1 := by
  intro c' k' hV'
  by_cases hc : c' = c ∧ k' = k
  · obtain ⟨rfl, rfl⟩ := hc
    rw [sw_up_self]
    exact he
  · rw [sw_up_ne σ c k j x hc]
    exact (h c' k' hV').kept (oq _ (fun z => hc (hG.1 c' k' c k hV' hV z)))
theorem sw_w.kept {ad : sw_A} {V : Nat → Nat → Prop} {rf : sw_R} {ln : sw_A} {ca : Nat → ClassId} {D : va_G} {σ : sw_S} {H H1 : Heap} (h : sw_w ad V rf ln ca D σ H) (oq : ∀ c k, V c k → H1[ad c k]? = H[ad c k]?) : sw_w ad V rf ln ca D σ H1 := fun c k hV => (h c k hV).kept (oq c k hV)
