/-! The world of the class at the start -/
def ad1 (b : Nat) (P : az_P) : sw_A := fun c k => b + ix1 P c k
theorem wf1 (b : Nat) {P : az_P} (hP : az_ok P) : sw_wf (ad1 b P) (vx1 P) sw_rf (lz P) := by
  refine ⟨fun c k c' k' h h' e => ?_, fun c k ds j d h hl hd h3 => ?_, fun c k t j h hl ht hj => ?_, fun c k h => ?_⟩
  · have e2 : ix1 P c k = ix1 P c' k' := by
      have e : b + ix1 P c k = b + ix1 P c' k' := e
      omega
    have h1 := dx_ok h
    rw [e2, dx_ok h'] at h1
    cases h1
    exact ⟨rfl, rfl⟩
  · unfold vx1 at h
    split at h
    · cases hl
      match j, hd with
      | 0, hd => cases hd; exact h
      | 1, hd => cases hd; exact h
      | 2, hd => cases hd; exact h
      | 3, hd => cases hd; omega
    · cases hl
    · cases hl
    · cases hl
    · cases hl
    · cases hl
      match j, hd with
      | 0, hd => cases hd; show 2 * k + 0 < 32 ∧ (2 * k + 0) / 2 % 8 < P 0; omega
      | 1, hd => cases hd; show 2 * k + 1 < 32 ∧ (2 * k + 1) / 2 % 8 < P 0; omega
      | 2, hd => cases hd; omega
      | 3, hd => cases hd; omega
      | 4, hd => cases hd; omega
      | 5, hd => cases hd; omega
      | 6, hd => cases hd; omega
      | 7, hd => cases hd; omega
      | 8, hd => cases hd; omega
      | 9, hd => cases hd; omega
      | 10, hd => cases hd; omega
      | 11, hd => cases hd; omega
      | 12, hd => cases hd; omega
    · cases hl
      match j, hd with
      | 0, hd => cases hd; show k / 16 < 2; omega
      | 1, hd => cases hd; omega
      | 2, hd => cases hd; omega
      | 3, hd => cases hd; omega
    · cases hl
      match j, hd with
      | 0, hd => cases hd; exact h
      | 1, hd => cases hd; omega
      | 2, hd => cases hd; omega
    · cases hl
    · cases hl
      match j, hd with
      | 0, hd => cases hd; exact h
      | 1, hd => cases hd; omega
    · cases hl
    · cases hl
      match j, hd with
      | 0, hd => cases hd; omega
      | 1, hd => cases hd; omega
      | 2, hd => cases hd; omega
      | 3, hd => cases hd; omega
      | 4, hd => cases hd; omega
      | 5, hd => cases hd; omega
    · cases hl
      match j, hd with
      | 0, hd => cases hd; exact (rfl : (0 : Nat) = 0)
      | 1, hd => cases hd; exact h
      | 2, hd => cases hd; show 2 * k < 4; omega
      | 3, hd => cases hd; show 2 * k + 1 < 4; omega
      | 4, hd => cases hd; exact Or.inr ⟨(show 128 ≤ 128 + k by omega), (show 128 + k < 130 by omega)⟩
      | 5, hd => cases hd; omega
      | 6, hd => cases hd; omega
      | 7, hd => cases hd; omega
      | 8, hd => cases hd; omega
      | 9, hd => cases hd; omega
      | 10, hd => cases hd; omega
      | 11, hd => cases hd; omega
      | 12, hd => cases hd; omega
      | 13, hd => cases hd; omega
      | 14, hd => cases hd; omega
    · cases hl
      match j, hd with
      | 0, hd => cases hd; show 0 < 2; decide
      | 1, hd => cases hd; show 1 < 2; decide
    · exact h.elim
  · have hp0 := hP.1
    unfold vx1 at h
    split at h
    · cases hl
    · cases hl; omega
    · cases hl; omega
    · cases hl; omega
    · cases hl
      have hj : j < P 0 := hj
      show 8 * k + j < 16 ∧ (8 * k + j) % 8 < P 0
      omega
    · cases hl
    · cases hl
    · cases hl
    · cases hl
      have hj : j < rl P k := hj
      have hr := rl_lt hP k
      show (32 * k + j < 128 ∧ (32 * k + j) % 32 < rl P ((32 * k + j) / 32)) ∨ _
      refine Or.inl ⟨by omega, ?_⟩
      rw [show (32 * k + j) % 32 = j by omega, show (32 * k + j) / 32 = k by omega]
      exact hj
    · cases hl
    · cases hl; omega
    · cases hl
    · cases hl
    · cases hl
    · exact h.elim
  · unfold vx1 at h
    split at h
    all_goals first | decide | exact h.elim
/-- the store at the start -/
def st1 (P : az_P) : sw_S := fun c k j => match c with
  | 1 => if j = 2 then nI (P 5) else if j = 4 then 1 else 0
  | 4 => nI (P j)
  | 5 => if j = 1 then -1 else if j = 2 then -1 else 0
  | 6 => if j = 8 then 1 else 0
  | 11 => n_nx (az_rm P) (az_rm P) j
  | _ => 0
section atRows
variable {b : Nat} {ca : Nat → ClassId} {D : va_G} {H : Heap} {ad : sw_A} {ln : sw_A}
theorem at_int {a n : Nat} {c : ClassId} {r r' : Nat → Int32} (h : va_at D vwCl (a, .inl (c, n, .inl r)) H) (he : ∀ j, j < n → r j = r' j) : va_at D vwCl (a, .inl (c, n, .inl r')) H := by
  show H[a]? = some (vp_cell c (n, .inl r'))
  have h : H[a]? = some (vp_cell c (n, .inl r)) := h
  have e : (Array.ofFn (n := n) fun j => Value.int (r j.val)) = Array.ofFn (n := n) fun j => Value.int (r' j.val) := congrArg _ (funext fun j => by rw [he j.val j.isLt])
  rw [h, vp_cell_i, vp_cell_i]
  unfold arrV
  rw [e]
theorem at_ref {a n : Nat} {c : ClassId} {r r' : Nat → Option Nat} (h : va_at D vwCl (a, .inl (c, n, .inr (.inr (.inr (.inr r))))) H) (he : ∀ j, j < n → r j = r' j) : va_at D vwCl (a, .inl (c, n, .inr (.inr (.inr (.inr r'))))) H := by
  show H[a]? = some (vp_cell c (n, .inr (.inr (.inr (.inr r')))))
  have h : H[a]? = some (vp_cell c (n, .inr (.inr (.inr (.inr r))))) := h
  have e : (Array.ofFn (n := n) fun j => va_rf (r j.val)) = Array.ofFn (n := n) fun j => va_rf (r' j.val) := congrArg _ (funext fun j => by rw [he j.val j.isLt])
  rw [h, vp_cell_q, vp_cell_q]
  unfold arrV
  rw [e]
theorem at_obj {a c k : Nat} {ds : List Nat} {f : Nat → sw_V} {r : Nat → Int32} (hl : sw_lay c = .inl ds) (hN : ds.length = (sw_cl c).2.2) (h : ∀ j d, sw_nth ds j = some d → sw_em (ck_ad b) (f j) = sw_fv ad sw_rf c k r j d) (hat : va_at D vwCl (a, ck_en b ca (.inl (c, f))) H) : va_at D vwCl (a, sw_en ad sw_rf ln ca c k r) H := by
  rw [sw_en_o hl]
  have e : ck_mk b (sw_cl c).2.2 f = sw_fs ad sw_rf c k r ds 0 := by
    apply List.ext_getElem?
    intro j
    rw [sw_fs_at]
    by_cases hj : j < (sw_cl c).2.2
    · rw [ck_mk_at hj]
      cases hd : sw_nth ds j with
      | none =>
        exfalso
        have : ∀ (l : List Nat) (j : Nat), j < l.length → ¬ sw_nth l j = none := by
          intro l
          induction l with
          | nil => intro j hj; exact absurd hj (Nat.not_lt_zero j)
          | cons x l ih =>
            intro j hj
            cases j with
            | zero => intro z; cases z
            | succ j => exact ih j (Nat.lt_of_succ_lt_succ hj)
        exact this ds j (by omega) hd
      | some d =>
        rw [h j d hd, Nat.zero_add]
        rfl
    · cases hd : sw_nth ds j with
      | none =>
        unfold ck_mk
        rw [List.getElem?_eq_none (by rw [List.length_map, List.length_range]; omega)]
        rfl
      | some d => exact absurd (sw_nth_lt hd) (by omega)
  show va_at D vwCl (a, .inr (c, sw_fs ad sw_rf c k r ds 0)) H
  rw [← e]
  exact hat
end atRows
section start1
variable {b : Nat} {ca : Nat → ClassId} {D : va_G} {H : Heap} {P : az_P} {f : Nat → sw_V} {E : Nat → ck_E}
/-- the cells of a side stand in the whole -/
theorem nw_sd (P : az_P) (f : Nat → sw_V) (E : Nat → ck_E) {s : Nat} (hs : s < 2) : ∃ B, n_wi P 0 1 f E (sbn P s - 1) = .inl (6, n_sv P (sbn P s) 1) ∧ ∀ x, sbn P s ≤ x → x < pb3 P (sbn P s) + 2 → n_wi P 0 1 f E x = n_s5 P (sbn P s) B x := by
  have hw := wb2_e P
  have hw2 : wb2 P 1 = pb3 P 3 + 2 := rfl
  rcases (by omega : s = 0 ∨ s = 1) with rfl | rfl
  · have e : sbn P 0 = 3 := rfl
    refine ⟨u1 (n_w1 1 f E) 2 (.inl (6, ck_dv 6)), ?_, fun x h1 h2 => ?_⟩
    · show n_wi P 0 1 f E 2 = _
      unfold n_wi n_w3
      rw [u1_n _ _ (by decide), n_side_lt (by omega) (by omega), u1_n _ _ (by omega)]
      show n_side P (1 + 1) 1 (1 + 2) (u1 (n_w1 1 f E) (1 + 1) (.inl (6, ck_dv 6))) (1 + 1) = _
      unfold n_side
      rw [u1_s]
      rfl
    · rw [e] at h1 h2 ⊢
      unfold n_wi n_w3
      rw [u1_n _ _ (by omega), n_side_lt (by omega) (by omega), u1_n _ _ (by omega)]
      exact u1_n _ _ (show ¬ x = 1 + 1 by omega)
  · have e : sbn P 1 = wb2 P 1 + 1 := rfl
    refine ⟨u1 (n_w2 P 1 f E) (wb2 P 1) (.inl (6, ck_dv 6)), ?_, fun x h1 h2 => ?_⟩
    · rw [e, Nat.add_sub_cancel]
      unfold n_wi
      rw [u1_n _ _ (by omega)]
      exact u1_s _ _ _
    · rw [e] at h1 h2 ⊢
      unfold n_wi
      rw [u1_n _ _ (by omega)]
      exact u1_n _ _ (show ¬ x = wb2 P 1 by omega)
theorem nw_0 (P : az_P) (f : Nat → sw_V) (E : Nat → ck_E) : n_wi P 0 1 f E 0 = .inl (7, n_wv P 1) ∧ n_wi P 0 1 f E 1 = .inl (4, f) := by
  have hw := wb2_e P
  refine ⟨u1_s _ _ _, ?_⟩
  unfold n_wi n_w3
  rw [u1_n _ _ (by decide), n_side_lt (by omega) (by omega), u1_n _ _ (by omega)]
  unfold n_w2
  rw [n_side_lt (by decide) (by decide), u1_n _ _ (by decide)]
  exact u1_s _ _ _
theorem ring_at {n R L k' : Nat} (hg : ∀ j, j < R → ix1 P 2 (32 * k' + j) = n + 1 + 2 * j) (hat : va_at D vwCl (b + n, ck_en b ca (.inr (4, R, .inr (n_g n R)))) H) : va_at D vwCl (b + n, .inl (ca 4, R, .inr (.inr (.inr (.inr (fun j => some (ad1 b P 2 (32 * k' + j)))))))) H := by
  refine at_ref hat (fun j hj => ?_)
  show (n_g n R j).map (fun k => b + k) = some (b + ix1 P 2 (32 * k' + j))
  unfold n_g
  rw [if_pos hj, hg j hj]
  rfl
theorem w1_at (hP : az_ok P) (hf : ∀ j, j < 6 → f j = .inl (nI (P j))) (hw : ∀ x, x < wb3 P 1 → va_at D vwCl (b + x, ck_en b ca (n_wi P 0 1 f E x)) H) : sw_w (ad1 b P) (vx1 P) sw_rf (lz P) ca D (st1 P) H := by
  have hp0 := hP.1
  have hp2 := hP.2.2.1
  have hp4 := hP.2.2.2.2.1
  have hw2 := wb2_e P
  have hw3 : wb3 P 1 = pb3 P (wb2 P 1 + 1) + 2 := rfl
  have hw2' : wb2 P 1 = pb3 P 3 + 2 := rfl
  have hsd : ∀ s, s < 2 → ∃ B, va_at D vwCl (b + (sbn P s - 1), ck_en b ca (.inl (6, n_sv P (sbn P s) 1))) H ∧ ∀ x, sbn P s ≤ x → x < pb3 P (sbn P s) + 2 → va_at D vwCl (b + x, ck_en b ca (n_s5 P (sbn P s) B x)) H := fun s hs => by
    obtain ⟨B, h1, h2⟩ := nw_sd P f E hs
    have hb := pb_lt P (sbn P s)
    have hlt : pb3 P (sbn P s) + 2 ≤ wb3 P 1 := by
      rcases (by omega : s = 0 ∨ s = 1) with rfl | rfl
      · have e : sbn P 0 = 3 := rfl
        have hb' := pb_lt P (wb2 P 1 + 1)
        rw [e]
        omega
      · exact Nat.le_refl _
    have hp := sbn_pos P s
    refine ⟨B, ?_, fun x h3 h4 => ?_⟩
    · have := hw (sbn P s - 1) (by omega)
      rw [h1] at this
      exact this
    · have := hw x (by omega)
      rw [h2 x h3 h4] at this
      exact this
  have hfr : ∀ k, vxf P k → va_at D vwCl (b + ixf P k, ck_en b ca (.inl (2, u1 (ck_dv 2) 0 (rfv (ixf P k + 1))))) H ∧ va_at D vwCl (b + (ixf P k + 1), ck_en b ca (.inr (0, P 1 + 3, .inl (fun _ => 0)))) H := fun k hk => by
    unfold ixf
    rcases hk with ⟨h1, h2⟩ | ⟨h1, h2⟩
    · rw [if_pos h1]
      obtain ⟨B, -, hB⟩ := hsd (k / 32 / 2) (by omega)
      have hb := pb_lt P (sbn P (k / 32 / 2))
      have hb2 : pb2 P (sbn P (k / 32 / 2)) = pb1 P (sbn P (k / 32 / 2)) + 2 + 2 * P 2 := rfl
      have hb3 : pb3 P (sbn P (k / 32 / 2)) = pb2 P (sbn P (k / 32 / 2)) + 2 + 2 * P 4 := rfl
      unfold rbn
      unfold rl at h2
      by_cases h3 : k / 32 % 2 = 0
      · rw [if_pos h3] at h2 ⊢
        obtain ⟨g1, g2⟩ := sa_2o (P := P) (n := sbn P (k / 32 / 2)) (B := B) h2
        have q1 := hB (pb1 P (sbn P (k / 32 / 2)) + 1 + 1 + 2 * (k % 32)) (by omega) (by omega)
        have q2 := hB (pb1 P (sbn P (k / 32 / 2)) + 1 + 1 + 2 * (k % 32) + 1) (by omega) (by omega)
        rw [g1] at q1
        rw [g2] at q2
        exact ⟨q1, q2⟩
      · rw [if_neg h3] at h2 ⊢
        obtain ⟨g1, g2⟩ := sa_2l (P := P) (n := sbn P (k / 32 / 2)) (B := B) h2
        have q1 := hB (pb2 P (sbn P (k / 32 / 2)) + 1 + 1 + 2 * (k % 32)) (by omega) (by omega)
        have q2 := hB (pb2 P (sbn P (k / 32 / 2)) + 1 + 1 + 2 * (k % 32) + 1) (by omega) (by omega)
        rw [g1] at q1
        rw [g2] at q2
        exact ⟨q1, q2⟩
    · rw [if_neg (by omega)]
      obtain ⟨B, -, hB⟩ := hsd (k - 128) (by omega)
      have hb := pb_lt P (sbn P (k - 128))
      obtain ⟨g1, g2⟩ := sa_2d (P := P) (n := sbn P (k - 128)) (B := B)
      have q1 := hB (pb3 P (sbn P (k - 128))) (by omega) (by omega)
      have q2 := hB (pb3 P (sbn P (k - 128)) + 1) (by omega) (by omega)
      rw [g1] at q1
      rw [g2] at q2
      exact ⟨q1, q2⟩
  have hrg : ∀ r, r < 4 → va_at D vwCl (b + rbn P r, ck_en b ca (.inl (3, n_fo (rbn P r + 1)))) H ∧ va_at D vwCl (b + (rbn P r + 1), ck_en b ca (.inr (4, rl P r, .inr (n_g (rbn P r + 1) (rl P r))))) H := fun r hr => by
    obtain ⟨B, -, hB⟩ := hsd (r / 2) (by omega)
    have hb := pb_lt P (sbn P (r / 2))
    unfold rbn rl
    by_cases h3 : r % 2 = 0
    · rw [if_pos h3, if_pos h3]
      obtain ⟨g1, g2⟩ := sa_3o (P := P) (n := sbn P (r / 2)) (B := B)
      have q1 := hB (pb1 P (sbn P (r / 2))) (by omega) (by omega)
      have q2 := hB (pb1 P (sbn P (r / 2)) + 1) (by omega) (by omega)
      rw [g1] at q1
      rw [g2] at q2
      exact ⟨q1, q2⟩
    · rw [if_neg h3, if_neg h3]
      obtain ⟨g1, g2⟩ := sa_3l (P := P) (n := sbn P (r / 2)) (B := B)
      have q1 := hB (pb2 P (sbn P (r / 2))) (by omega) (by omega)
      have q2 := hB (pb2 P (sbn P (r / 2)) + 1) (by omega) (by omega)
      rw [g1] at q1
      rw [g2] at q2
      exact ⟨q1, q2⟩
  intro c k h
  unfold vx1 at h
  split at h
  · obtain ⟨B, -, hB⟩ := hsd k h
    have hb := pb_lt P (sbn P k)
    have q := hB (sbn P k) (by omega) (by omega)
    rw [sa_0] at q
    refine at_obj (ds := [12, 13, 14, 0]) rfl rfl (fun j d hd => ?_) q
    match j, hd with
    | 0, hd => cases hd; rfl
    | 1, hd => cases hd; rfl
    | 2, hd => cases hd; rfl
    | 3, hd => cases hd; rfl
  · obtain ⟨B, -, hB⟩ := hsd k h
    have hb := pb_lt P (sbn P k)
    have q := hB (sbn P k + 1) (by omega) (by omega)
    rw [sa_9] at q
    exact q
  · obtain ⟨B, -, hB⟩ := hsd k h
    have hb := pb_lt P (sbn P k)
    have q := hB (sbn P k + 2) (by omega) (by omega)
    rw [sa_10] at q
    exact q
  · obtain ⟨B, -, hB⟩ := hsd k h
    have hb := pb_lt P (sbn P k)
    have q := hB (sbn P k + 3) (by omega) (by omega)
    rw [sa_11] at q
    exact q
  · obtain ⟨B, -, hB⟩ := hsd k h
    have hb := pb_lt P (sbn P k)
    have q := hB (sbn P k + 4) (by omega) (by omega)
    rw [sa_14] at q
    refine at_ref q (fun j hj => ?_)
    have hj : j < P 0 := hj
    show (n_g3 (sbn P k) (P 0) j).map (fun k => b + k) = some (b + (sbn P ((8 * k + j) / 8) + 5 + 3 * ((8 * k + j) % 8)))
    unfold n_g3
    rw [if_pos hj, show (8 * k + j) / 8 = k by omega, show (8 * k + j) % 8 = j by omega]
    rfl
  · obtain ⟨B, -, hB⟩ := hsd (k / 8) (by omega)
    have hb : pb1 P (sbn P (k / 8)) = sbn P (k / 8) + 5 + 3 * P 0 := rfl
    have hb' := pb_lt P (sbn P (k / 8))
    have q := hB (sbn P (k / 8) + 5 + 3 * (k % 8)) (by omega) (by omega)
    rw [(sa_1 h.2).1] at q
    have q0 : ix1 P 5 (2 * k + 0) = sbn P (k / 8) + 5 + 3 * (k % 8) + 1 := by
      show sbn P ((2 * k + 0) / 16) + 5 + 3 * ((2 * k + 0) / 2 % 8) + 1 + (2 * k + 0) % 2 = _
      rw [show (2 * k + 0) / 16 = k / 8 by omega]
      omega
    have q1 : ix1 P 5 (2 * k + 1) = sbn P (k / 8) + 5 + 3 * (k % 8) + 1 + 1 := by
      show sbn P ((2 * k + 1) / 16) + 5 + 3 * ((2 * k + 1) / 2 % 8) + 1 + (2 * k + 1) % 2 = _
      rw [show (2 * k + 1) / 16 = k / 8 by omega]
      omega
    refine at_obj (ds := [8, 8, 2, 0, 0, 0, 0, 1, 1, 1, 1, 0, 0]) rfl rfl (fun j d hd => ?_) q
    match j, hd with
    | 0, hd => cases hd; show Value.ref (b + _) = Value.ref (b + ix1 P 5 (2 * k + 0)); rw [q0]
    | 1, hd => cases hd; show Value.ref (b + _) = Value.ref (b + ix1 P 5 (2 * k + 1)); rw [q1]
    | 2, hd => cases hd; rfl
    | 3, hd => cases hd; rfl
    | 4, hd => cases hd; rfl
    | 5, hd => cases hd; rfl
    | 6, hd => cases hd; rfl
    | 7, hd => cases hd; rfl
    | 8, hd => cases hd; rfl
    | 9, hd => cases hd; rfl
    | 10, hd => cases hd; rfl
    | 11, hd => cases hd; rfl
    | 12, hd => cases hd; rfl
  · obtain ⟨B, -, hB⟩ := hsd (k / 16) (by omega)
    have hb : pb1 P (sbn P (k / 16)) = sbn P (k / 16) + 5 + 3 * P 0 := rfl
    have hb' := pb_lt P (sbn P (k / 16))
    have q : va_at D vwCl (b + (sbn P (k / 16) + 5 + 3 * (k / 2 % 8) + 1 + k % 2), ck_en b ca (.inl (5, n_qv (rfv (sbn P (k / 16)))))) H := by
      rcases (by omega : k % 2 = 0 ∨ k % 2 = 1) with z | z
      · rw [z]
        have q := hB (sbn P (k / 16) + 5 + 3 * (k / 2 % 8) + 1) (by omega) (by omega)
        rw [(sa_1 h.2).2.1] at q
        exact q
      · rw [z]
        have q := hB (sbn P (k / 16) + 5 + 3 * (k / 2 % 8) + 1 + 1) (by omega) (by omega)
        rw [(sa_1 h.2).2.2] at q
        exact q
    refine at_obj (ds := [3, 0, 0, 0]) rfl rfl (fun j d hd => ?_) q
    match j, hd with
    | 0, hd => cases hd; rfl
    | 1, hd => cases hd; rfl
    | 2, hd => cases hd; rfl
    | 3, hd => cases hd; rfl
  · refine at_obj (ds := [16, 0, 0]) rfl rfl (fun j d hd => ?_) (hrg k h).1
    match j, hd with
    | 0, hd => cases hd; rfl
    | 1, hd => cases hd; rfl
    | 2, hd => cases hd; rfl
  · have hr := rl_lt hP k
    have hk : k < 4 := h
    have q := ring_at (b := b) (ca := ca) (D := D) (H := H) (P := P) (L := 0) (R := rl P k) (n := rbn P k + 1) (k' := k) (fun j hj => by
      show ixf P (32 * k + j) = _
      unfold ixf
      rw [if_pos (by omega), show (32 * k + j) / 32 = k by omega, show (32 * k + j) % 32 = j by omega]) (hrg k h).2
    exact q
  · refine at_obj (ds := [15, 0]) rfl rfl (fun j d hd => ?_) (hfr k h).1
    match j, hd with
    | 0, hd => cases hd; rfl
    | 1, hd => cases hd; rfl
  · exact (hfr k h).2
  · subst h
    have q := hw 1 (by omega)
    rw [(nw_0 P f E).2] at q
    refine at_obj (ds := [2, 2, 2, 2, 2, 2]) rfl rfl (fun j d hd => ?_) q
    match j, hd with
    | 0, hd => cases hd; rw [hf 0 (by decide)]; rfl
    | 1, hd => cases hd; rw [hf 1 (by decide)]; rfl
    | 2, hd => cases hd; rw [hf 2 (by decide)]; rfl
    | 3, hd => cases hd; rw [hf 3 (by decide)]; rfl
    | 4, hd => cases hd; rw [hf 4 (by decide)]; rfl
    | 5, hd => cases hd; rw [hf 5 (by decide)]; rfl
  · obtain ⟨B, q, -⟩ := hsd k h
    have r0 : rbn P (2 * k) = pb1 P (sbn P k) := by
      unfold rbn
      rw [if_pos (by omega), show 2 * k / 2 = k by omega]
    have r1 : rbn P (2 * k + 1) = pb2 P (sbn P k) := by
      unfold rbn
      rw [if_neg (by omega), show (2 * k + 1) / 2 = k by omega]
    have r2 : ixf P (128 + k) = pb3 P (sbn P k) := by
      unfold ixf
      rw [if_neg (by omega), show 128 + k - 128 = k by omega]
    refine at_obj (ds := [7, 17, 6, 6, 5, 0, 0, 0, 0, 1, 0, 0, 0, 0, 0]) rfl rfl (fun j d hd => ?_) q
    match j, hd with
    | 0, hd => cases hd; rfl
    | 1, hd => cases hd; rfl
    | 2, hd => cases hd; show Value.ref (b + _) = Value.ref (b + rbn P (2 * k)); rw [r0]
    | 3, hd => cases hd; show Value.ref (b + _) = Value.ref (b + rbn P (2 * k + 1)); rw [r1]
    | 4, hd => cases hd; show Value.ref (b + _) = Value.ref (b + ixf P (128 + k)); rw [r2]
    | 5, hd => cases hd; rfl
    | 6, hd => cases hd; rfl
    | 7, hd => cases hd; rfl
    | 8, hd => cases hd; rfl
    | 9, hd => cases hd; rfl
    | 10, hd => cases hd; rfl
    | 11, hd => cases hd; rfl
    | 12, hd => cases hd; rfl
    | 13, hd => cases hd; rfl
    | 14, hd => cases hd; rfl
  · subst h
    have q := hw 0 (by omega)
    rw [(nw_0 P f E).1] at q
    refine at_obj (ds := [9, 9]) rfl rfl (fun j d hd => ?_) q
    match j, hd with
    | 0, hd => cases hd; rfl
    | 1, hd => cases hd; rfl
  · exact h.elim
end start1
