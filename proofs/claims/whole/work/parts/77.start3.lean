/-! The start: the class's store tells the abstract state; the reference's world -/
def n00 : Nat → Nat → Int32 := fun j _ => if j = 10 then 1 else if j = 31 then 1 else 0
def A00 : az := (n00, fun _ _ => [], fun _ => [])
theorem ch_range (M : Nat) : ∀ d i : Nat, i + d = M → ch (n_nx M M) (nI i) ((List.range d).map (fun j => i + j))
  | 0, _, _ => trivial
  | d + 1, i, h => by
    rw [List.range_succ_eq_map, List.map_cons, List.map_map]
    refine ⟨rfl, ?_⟩
    have e : (List.range d).map ((fun j => i + j) ∘ Nat.succ) = (List.range d).map (fun j => i + 1 + j) := by
      refine List.map_congr_left (fun j _ => ?_)
      show i + (j + 1) = i + 1 + j
      omega
    rw [e]
    by_cases hd : d = 0
    · subst hd
      trivial
    · have e2 : n_nx M M (i + 0) = nI (i + 1) := by
        unfold n_nx
        rw [if_pos (by omega), if_pos (by omega)]
      rw [e2]
      exact ch_range M d (i + 1) (by omega)
theorem su_0 (f : Nat → Nat) (h : ∀ i, f i = 0) : ∀ n, su n f = 0
  | 0 => rfl
  | n + 1 => by
    show su n f + f n = 0
    rw [su_0 f h n, h n]
theorem start_cr {P : az_P} (hP : az_ok P) : crx P (st1 P) A00 := by
  refine ⟨fun _ => [], fun _ => List.range (az_rm P), ⟨fun w => rfl, fun w j h3 h13 => ?_⟩, fun s j h5 h15 => ?_, fun j hj => rfl, ⟨fun i => ⟨rfl, trivial, fun l c h => ?_, rfl⟩, fun s => ⟨?_, fun c => ?_, ?_⟩⟩, fun r => ?_, fun k => ?_⟩
  · match j, h3, h13 with
    | 3, _, _ => rfl
    | 4, _, _ => rfl
    | 5, _, _ => rfl
    | 6, _, _ => rfl
    | 7, _, _ => rfl
    | 8, _, _ => rfl
    | 9, _, _ => rfl
    | 10, _, _ => rfl
    | 11, _, _ => rfl
    | 12, _, _ => rfl
  · match j, h5, h15 with
    | 5, _, _ => rfl
    | 6, _, _ => rfl
    | 7, _, _ => rfl
    | 8, _, _ => rfl
    | 9, _, _ => rfl
    | 10, _, _ => rfl
    | 11, _, _ => rfl
    | 12, _, _ => rfl
    | 13, _, _ => rfl
    | 14, _, _ => rfl
  · cases l <;> cases h
  · have := ch_range (az_rm P) (az_rm P) 0 (by omega)
    have e : (List.range (az_rm P)).map (fun j => 0 + j) = List.range (az_rm P) := by
      have : (fun j : Nat => 0 + j) = id := funext fun j => Nat.zero_add j
      rw [this, List.map_id]
    rw [e] at this
    exact this
  · show su 16 (fun _ => 0) + List.count c (List.range (az_rm P)) = _
    rw [su_0 _ (fun i => rfl), Nat.zero_add, List.nodup_range.count]
    by_cases hc : c < az_rm P
    · rw [if_pos (List.mem_range.mpr hc), if_pos hc]
    · rw [if_neg (fun z => hc (List.mem_range.mp z)), if_neg hc]
  · show su 16 (fun _ => 0) + (List.range (az_rm P)).length = _
    rw [su_0 _ (fun i => rfl), Nat.zero_add, List.length_range]
  · have hr := rl_lt hP r
    exact ⟨0, by omega, rfl, rfl, Nat.zero_le _, fun n hn => absurd hn (Nat.not_lt_zero n)⟩
  · have hp := hP.2.1
    refine ⟨Int32.le_refl _, ?_⟩
    exact nI_pos' (by show P 1 + 3 < 2 ^ 31; omega)
theorem start_ai {P : az_P} (hP : az_ok P) : ai P A00 := by
  have hp0 := hP.1
  refine ai_iff.mpr ⟨fun j x => ?_, ⟨fun s => ?_, fun b x => ⟨fun _ => rfl, fun p hp => absurd hp List.not_mem_nil⟩⟩, fun r _ => rfl, fun r => ⟨Nat.zero_le _, fun l hl => absurd hl List.not_mem_nil⟩⟩
  · show okv P (fun _ _ => []) j x (n00 j x)
    unfold okv
    split
    · exact Or.inl rfl
    · exact Or.inl rfl
    · exact Or.inl rfl
    · exact Or.inl rfl
    · exact Or.inl rfl
    · exact ⟨0, rfl, Nat.zero_le _⟩
    · exact ⟨0, rfl, Nat.zero_le _⟩
    · exact ⟨1, rfl, Nat.le_refl _, by decide⟩
    · exact ⟨0, rfl, Nat.zero_le _⟩
    · exact ⟨0, rfl, Nat.zero_le _⟩
    · exact ⟨0, rfl, by omega⟩
    · exact ⟨1, rfl, Nat.le_refl _, by decide⟩
    · trivial
  · show su (P 0) (fun _ => 0) ≤ P 3
    rw [su_0 _ (fun _ => rfl)]
    exact Nat.zero_le _
/-! the reference -/
def st2 (P : az_P) : sw_S := fun c k j => match c with
  | 8 => if j < 6 then nI (P j) else 0
  | 15 => if k = 10 then 1 else if k = 31 then 1 else 0
  | _ => 0
theorem start_mr {P : az_P} (hP : az_ok P) : mr P (st2 P) A00 := by
  refine ⟨fun j hj => if_pos hj, ⟨fun j hj => ?_, fun j hj => ?_⟩, fun x _ => ⟨rfl, ra_nil _ _, ra_nil _ _⟩, fun x _ => ⟨rfl, ra_nil _ _, ra_nil _ _⟩, fun s _ => ⟨rfl, fun n hn => absurd hn (Nat.not_lt_zero n)⟩, fun s _ => ⟨rfl, fun n hn => absurd hn (Nat.not_lt_zero n)⟩, fun s hs => ?_, fun y => Or.inl rfl, fun y => Or.inl rfl⟩
  · funext x
    rfl
  · funext x
    show (0 : Int32) = if j = 10 then 1 else if j = 31 then 1 else 0
    rw [if_neg (fun z => by rw [z] at hj; exact absurd hj (by decide)), if_neg (fun z => by rw [z] at hj; exact absurd hj (by decide))]
  · have hp := hP.2.2.1
    have e := o_nb_e hP (A := A00) (s := s) (o := 0) rfl (Nat.zero_le _) (Nat.zero_le _)
    rw [e]
    have : (A00.2.2 (2 * s)).length = 0 := rfl
    rw [this, if_pos (by omega)]
    rfl
def ix2 (M c k : Nat) : Nat := if c = 8 then M else M + 1 + (k - 6)
def vx2 (c k : Nat) : Prop := (c = 8 ∧ k = 0) ∨ (c = 15 ∧ 0 < ml k) ∨ (c = 16 ∧ 0 < mz k)
def ad2 (b M : Nat) : sw_A := fun c k => b + ix2 M c k
theorem ml_6 {k : Nat} (h : 0 < ml k) : 6 ≤ k ∧ k < 39 ∧ mz k = 0 := by
  unfold ml at h
  split at h
  all_goals first | exact ⟨by decide, by decide, rfl⟩ | exact absurd h (Nat.lt_irrefl 0)
theorem mz_6 {k : Nat} (h : 0 < mz k) : 6 ≤ k ∧ k < 39 ∧ ml k = 0 := by
  unfold mz at h
  split at h
  all_goals first | exact ⟨by decide, by decide, rfl⟩ | exact absurd h (Nat.lt_irrefl 0)
theorem wf2 (b M : Nat) (P : az_P) : sw_wf (ad2 b M) vx2 sw_rf (lz P) := by
  refine ⟨fun c k c' k' h h' e => ?_, fun c k ds j d h hl hd h3 => ?_, fun c k t j h hl ht hj => ?_, fun c k h => ?_⟩
  · have e : b + ix2 M c k = b + ix2 M c' k' := e
    have e : ix2 M c k = ix2 M c' k' := by omega
    unfold ix2 at e
    rcases h with ⟨rfl, rfl⟩ | ⟨rfl, h⟩ | ⟨rfl, h⟩
    · rcases h' with ⟨rfl, rfl⟩ | ⟨rfl, h'⟩ | ⟨rfl, h'⟩
      · exact ⟨rfl, rfl⟩
      · rw [if_pos rfl, if_neg (by decide)] at e
        omega
      · rw [if_pos rfl, if_neg (by decide)] at e
        omega
    · have h0 := ml_6 h
      rcases h' with ⟨rfl, rfl⟩ | ⟨rfl, h'⟩ | ⟨rfl, h'⟩
      · rw [if_neg (by decide), if_pos rfl] at e
        omega
      · have h1 := ml_6 h'
        rw [if_neg (by decide), if_neg (by decide)] at e
        exact ⟨rfl, by omega⟩
      · have h1 := mz_6 h'
        rw [if_neg (by decide), if_neg (by decide)] at e
        have : k = k' := by omega
        subst this
        omega
    · have h0 := mz_6 h
      rcases h' with ⟨rfl, rfl⟩ | ⟨rfl, h'⟩ | ⟨rfl, h'⟩
      · rw [if_neg (by decide), if_pos rfl] at e
        omega
      · have h1 := ml_6 h'
        rw [if_neg (by decide), if_neg (by decide)] at e
        have : k = k' := by omega
        subst this
        omega
      · have h1 := mz_6 h'
        rw [if_neg (by decide), if_neg (by decide)] at e
        exact ⟨rfl, by omega⟩
  · rcases h with ⟨rfl, rfl⟩ | ⟨rfl, h⟩ | ⟨rfl, h⟩
    · cases hl
      match j, hd with
      | 0, hd => cases hd; omega
      | 1, hd => cases hd; omega
      | 2, hd => cases hd; omega
      | 3, hd => cases hd; omega
      | 4, hd => cases hd; omega
      | 5, hd => cases hd; omega
      | 6, hd => cases hd; exact Or.inr (Or.inl ⟨rfl, by decide⟩)
      | 7, hd => cases hd; exact Or.inr (Or.inr ⟨rfl, by decide⟩)
      | 8, hd => cases hd; exact Or.inr (Or.inl ⟨rfl, by decide⟩)
      | 9, hd => cases hd; exact Or.inr (Or.inl ⟨rfl, by decide⟩)
      | 10, hd => cases hd; exact Or.inr (Or.inl ⟨rfl, by decide⟩)
      | 11, hd => cases hd; exact Or.inr (Or.inr ⟨rfl, by decide⟩)
      | 12, hd => cases hd; exact Or.inr (Or.inr ⟨rfl, by decide⟩)
      | 13, hd => cases hd; exact Or.inr (Or.inr ⟨rfl, by decide⟩)
      | 14, hd => cases hd; exact Or.inr (Or.inl ⟨rfl, by decide⟩)
      | 15, hd => cases hd; exact Or.inr (Or.inl ⟨rfl, by decide⟩)
      | 16, hd => cases hd; exact Or.inr (Or.inl ⟨rfl, by decide⟩)
      | 17, hd => cases hd; exact Or.inr (Or.inl ⟨rfl, by decide⟩)
      | 18, hd => cases hd; exact Or.inr (Or.inr ⟨rfl, by decide⟩)
      | 19, hd => cases hd; exact Or.inr (Or.inl ⟨rfl, by decide⟩)
      | 20, hd => cases hd; exact Or.inr (Or.inl ⟨rfl, by decide⟩)
      | 21, hd => cases hd; exact Or.inr (Or.inr ⟨rfl, by decide⟩)
      | 22, hd => cases hd; exact Or.inr (Or.inl ⟨rfl, by decide⟩)
      | 23, hd => cases hd; exact Or.inr (Or.inl ⟨rfl, by decide⟩)
      | 24, hd => cases hd; exact Or.inr (Or.inl ⟨rfl, by decide⟩)
      | 25, hd => cases hd; exact Or.inr (Or.inl ⟨rfl, by decide⟩)
      | 26, hd => cases hd; exact Or.inr (Or.inl ⟨rfl, by decide⟩)
      | 27, hd => cases hd; exact Or.inr (Or.inl ⟨rfl, by decide⟩)
      | 28, hd => cases hd; exact Or.inr (Or.inl ⟨rfl, by decide⟩)
      | 29, hd => cases hd; exact Or.inr (Or.inl ⟨rfl, by decide⟩)
      | 30, hd => cases hd; exact Or.inr (Or.inl ⟨rfl, by decide⟩)
      | 31, hd => cases hd; exact Or.inr (Or.inl ⟨rfl, by decide⟩)
      | 32, hd => cases hd; exact Or.inr (Or.inr ⟨rfl, by decide⟩)
      | 33, hd => cases hd; exact Or.inr (Or.inl ⟨rfl, by decide⟩)
      | 34, hd => cases hd; exact Or.inr (Or.inl ⟨rfl, by decide⟩)
      | 35, hd => cases hd; exact Or.inr (Or.inl ⟨rfl, by decide⟩)
      | 36, hd => cases hd; exact Or.inr (Or.inl ⟨rfl, by decide⟩)
      | 37, hd => cases hd; exact Or.inr (Or.inl ⟨rfl, by decide⟩)
      | 38, hd => cases hd; exact Or.inr (Or.inl ⟨rfl, by decide⟩)
      | 39, hd => cases hd; omega
    · cases hl
    · cases hl
  · rcases h with ⟨rfl, rfl⟩ | ⟨rfl, h⟩ | ⟨rfl, h⟩
    · cases hl
    · cases hl; omega
    · cases hl; omega
  · rcases h with ⟨rfl, rfl⟩ | ⟨rfl, h⟩ | ⟨rfl, h⟩ <;> decide
section start2
variable {b : Nat} {ca : Nat → ClassId} {D : va_G} {H : Heap} {P : az_P} {E : Nat → ck_E}
theorem mlen_ml {k : Nat} (h : 0 < ml k) : mty (k - 6) = 0 ∧ mlen (k - 6) = ml k := by
  have h0 := ml_6 h
  unfold mty mlen
  rw [show 6 + (k - 6) = k by omega, h0.2.2, if_pos rfl]
  exact ⟨rfl, rfl⟩
theorem mlen_mz {k : Nat} (h : 0 < mz k) : mty (k - 6) = 1 ∧ mlen (k - 6) = mz k := by
  have h0 := mz_6 h
  unfold mty mlen
  rw [show 6 + (k - 6) = k by omega, h0.2.2, if_neg (by omega), Nat.zero_add]
  exact ⟨rfl, rfl⟩
theorem w2_at {M : Nat} {v0 v1 v2 v3 v4 : Int32} (hv : v0 = nI (P 0) ∧ v1 = nI (P 1) ∧ v2 = nI (P 2) ∧ v3 = nI (P 3) ∧ v4 = nI (P 4) ∧ n_kept v0 v3 = nI (P 5)) (hw : ∀ x, M ≤ x → x < M + 34 → va_at D vwCl (b + x, ck_en b ca (n_model M (M + 1) v0 v1 v2 v3 v4 E x)) H) : sw_w (ad2 b M) vx2 sw_rf (lz P) ca D (st2 P) H := by
  obtain ⟨e0, e1, e2, e3, e4, e5⟩ := hv
  have har : ∀ j, j < 33 → ¬ j = 4 → ¬ j = 25 → va_at D vwCl (b + (M + 1 + j), ck_en b ca (.inr (mty j, mlen j, .inl (fun _ => 0)))) H := fun j hj h4 h25 => by
    have q := hw (M + 1 + j) (by omega) (by omega)
    have e : n_model M (M + 1) v0 v1 v2 v3 v4 E (M + 1 + j) = .inr (mty j, mlen j, .inl (fun _ => 0)) := by
      unfold n_model n_mc
      rw [u1_n _ _ (by omega), u1_n _ _ (by omega), u1_n _ _ (by omega), n_ar_at 33 hj]
    rw [e] at q
    exact q
  intro c k h
  rcases h with ⟨rfl, rfl⟩ | ⟨rfl, h⟩ | ⟨rfl, h⟩
  · have q := hw M (by omega) (by omega)
    rw [show n_model M (M + 1) v0 v1 v2 v3 v4 E M = .inl (8, n_mv (M + 1) v0 v1 v2 v3 v4) from u1_s _ _ _] at q
    refine at_obj (ds := [2, 2, 2, 2, 2, 2, 18, 19, 18, 18, 18, 19, 19, 19, 18, 18, 18, 18, 19, 18, 18, 19, 18, 18, 18, 18, 18, 18, 18, 18, 18, 18, 19, 18, 18, 18, 18, 18, 18, 0]) rfl rfl (fun j d hd => ?_) q
    match j, hd with
    | 0, hd => cases hd; show Value.int v0 = Value.int (nI (P 0)); rw [e0]
    | 1, hd => cases hd; show Value.int v1 = Value.int (nI (P 1)); rw [e1]
    | 2, hd => cases hd; show Value.int v2 = Value.int (nI (P 2)); rw [e2]
    | 3, hd => cases hd; show Value.int v3 = Value.int (nI (P 3)); rw [e3]
    | 4, hd => cases hd; show Value.int v4 = Value.int (nI (P 4)); rw [e4]
    | 5, hd => cases hd; show Value.int (n_kept v0 v3) = Value.int (nI (P 5)); rw [e5]
    | 6, hd => cases hd; rfl
    | 7, hd => cases hd; rfl
    | 8, hd => cases hd; rfl
    | 9, hd => cases hd; rfl
    | 10, hd => cases hd; rfl
    | 11, hd => cases hd; rfl
    | 12, hd => cases hd; rfl
    | 13, hd => cases hd; rfl
    | 14, hd => cases hd; rfl
    | 15, hd => cases hd; rfl
    | 16, hd => cases hd; rfl
    | 17, hd => cases hd; rfl
    | 18, hd => cases hd; rfl
    | 19, hd => cases hd; rfl
    | 20, hd => cases hd; rfl
    | 21, hd => cases hd; rfl
    | 22, hd => cases hd; rfl
    | 23, hd => cases hd; rfl
    | 24, hd => cases hd; rfl
    | 25, hd => cases hd; rfl
    | 26, hd => cases hd; rfl
    | 27, hd => cases hd; rfl
    | 28, hd => cases hd; rfl
    | 29, hd => cases hd; rfl
    | 30, hd => cases hd; rfl
    | 31, hd => cases hd; rfl
    | 32, hd => cases hd; rfl
    | 33, hd => cases hd; rfl
    | 34, hd => cases hd; rfl
    | 35, hd => cases hd; rfl
    | 36, hd => cases hd; rfl
    | 37, hd => cases hd; rfl
    | 38, hd => cases hd; rfl
    | 39, hd => cases hd; rfl
  · have h0 := ml_6 h
    have hm := mlen_ml h
    have ead : ad2 b M 15 k = b + (M + 1 + (k - 6)) := rfl
    rw [sw_en_a (t := 0) rfl (by decide), ead]
    have eln : lz P 15 k = ml k := rfl
    rw [eln]
    by_cases h4 : k = 10
    · subst h4
      have q := hw (M + 1 + 4) (by omega) (by omega)
      have e : n_model M (M + 1) v0 v1 v2 v3 v4 E (M + 1 + 4) = .inr (0, 16, .inl (n_on 16)) := by
        unfold n_model
        rw [u1_n _ _ (by omega), n_mc_4]
      rw [e] at q
      exact at_int q (fun j hj => if_pos hj)
    · by_cases h25 : k = 31
      · subst h25
        have q := hw (M + 1 + 25) (by omega) (by omega)
        have e : n_model M (M + 1) v0 v1 v2 v3 v4 E (M + 1 + 25) = .inr (0, 2, .inl (n_le 2)) := by
          unfold n_model
          rw [u1_n _ _ (by omega), n_mc_25]
        rw [e] at q
        refine at_int q (fun j hj => ?_)
        match j, hj with
        | 0, _ => rfl
        | 1, _ => rfl
      · have q := har (k - 6) (by omega) (by omega) (by omega)
        rw [hm.1, hm.2] at q
        refine at_int q (fun j hj => ?_)
        show (0 : Int32) = if k = 10 then 1 else if k = 31 then 1 else 0
        rw [if_neg h4, if_neg h25]
  · have h0 := mz_6 h
    have hm := mlen_mz h
    have ead : ad2 b M 16 k = b + (M + 1 + (k - 6)) := rfl
    rw [sw_en_a (t := 1) rfl (by decide), ead]
    have eln : lz P 16 k = mz k := rfl
    rw [eln]
    have q := har (k - 6) (by omega) (fun z => by
      have : k = 10 := by omega
      subst this
      exact absurd h (by decide)) (fun z => by
      have : k = 31 := by omega
      subst this
      exact absurd h (by decide))
    rw [hm.1, hm.2] at q
    exact q
end start2
