/-! The world of the class, out of what was made: what stands where -/
theorem n_frs_at {n L j : Nat} {B : Nat → ck_E} : ∀ i, j < i → n_frs n L i B (n + 1 + 2 * j) = .inl (2, u1 (ck_dv 2) 0 (rfv (n + 1 + 2 * j + 1))) ∧ n_frs n L i B (n + 1 + 2 * j + 1) = .inr (0, L, .inl (fun _ => 0))
  | i + 1, h => by
    show u1 (u1 (n_frs n L i B) (n + 1 + 2 * i) _) (n + 1 + 2 * i + 1) _ (n + 1 + 2 * j) = _ ∧ u1 (u1 (n_frs n L i B) (n + 1 + 2 * i) _) (n + 1 + 2 * i + 1) _ (n + 1 + 2 * j + 1) = _
    by_cases hj : j = i
    · subst hj
      rw [u1_n _ _ (by omega), u1_s, u1_s]
      exact ⟨rfl, rfl⟩
    · obtain ⟨h1, h2⟩ := n_frs_at (n := n) (L := L) (B := B) i (by omega : j < i)
      rw [u1_n _ _ (by omega), u1_n _ _ (by omega), u1_n _ _ (by omega), u1_n _ _ (by omega)]
      exact ⟨h1, h2⟩
theorem n_fb_at {a n R L j : Nat} {B : Nat → ck_E} (ha : a < n) (hj : j < R) : n_fb a n R L R B (n + 1 + 2 * j) = .inl (2, u1 (ck_dv 2) 0 (rfv (n + 1 + 2 * j + 1))) ∧ n_fb a n R L R B (n + 1 + 2 * j + 1) = .inr (0, L, .inl (fun _ => 0)) := by
  unfold n_fb
  rw [u1_n _ _ (by omega), u1_n _ _ (by omega), u1_n _ _ (by omega), u1_n _ _ (by omega)]
  exact n_frs_at R hj
theorem n_fls_at {n S t : Nat} {v : Int32} {B : Nat → ck_E} : ∀ i, t < i → n_fls n S v B i (n + 5 + 3 * t) = .inl (1, n_fv (n + 5 + 3 * t + 1) v) ∧ n_fls n S v B i (n + 5 + 3 * t + 1) = .inl (5, n_qv (rfv n)) ∧ n_fls n S v B i (n + 5 + 3 * t + 1 + 1) = .inl (5, n_qv (rfv n))
  | i + 1, h => by
    have e : n_fls n S v B (i + 1) = u1 (n_flow (n + 5 + 3 * i) (n + 5 + 3 * i + 1) (rfv n) v (u1 (n_fls n S v B i) (n + 5 + 3 * i) (.inl (1, ck_dv 1)))) (n + 4) (.inr (3, S, .inr (n_g3 n (i + 1)))) := rfl
    rw [e, u1_n _ _ (by omega), u1_n _ _ (by omega), u1_n _ _ (by omega)]
    by_cases hj : t = i
    · subst hj
      unfold n_flow
      rw [u1_s, u1_n _ _ (by omega), u1_n _ _ (by omega), u1_s, u1_n _ _ (by omega), u1_s]
      exact ⟨rfl, rfl, rfl⟩
    · obtain ⟨h1, h2, h3⟩ := n_fls_at (n := n) (S := S) (v := v) (B := B) i (by omega : t < i)
      rw [n_flow_lt (by omega) (by omega) (by omega), n_flow_lt (by omega) (by omega) (by omega), n_flow_lt (by omega) (by omega) (by omega), u1_n _ _ (by omega), u1_n _ _ (by omega), u1_n _ _ (by omega)]
      exact ⟨h1, h2, h3⟩
/-! a side's cells, layer by layer -/
section sideAt
variable {P : az_P} {a q n : Nat} {B : Nat → ck_E}
theorem s5_lt {x : Nat} (h : x < pb3 P n) : n_s5 P n B x = n_s4 P n B x := by
  unfold n_s5
  rw [n_frame_lt (by omega) (by omega), u1_n _ _ (by omega)]
theorem s4_lt {x : Nat} (h : x < pb2 P n) : n_s4 P n B x = n_s3 P n B x := by
  unfold n_s4
  rw [n_fb_lt (by omega) (by omega), u1_n _ _ (by omega)]
theorem s3_lt {x : Nat} (h : x < pb1 P n) : n_s3 P n B x = n_s2 P n B x := by
  unfold n_s3
  rw [n_fb_lt (by omega) (by omega), u1_n _ _ (by omega)]
theorem s5_2 {x : Nat} (h : x < pb1 P n) : n_s5 P n B x = n_s2 P n B x := by
  have hb := pb_lt P n
  rw [s5_lt (by omega), s4_lt (by omega), s3_lt h]
theorem s5_1 {x : Nat} (h : x < n + 4) : n_s5 P n B x = n_s1 P n B x := by
  have hb := pb_lt P n
  rw [s5_2 (by omega)]
  unfold n_s2
  rw [n_fls_lt (by omega) _ (by omega)]
theorem sa_0 : n_s5 P n B n = .inl (0, u1 (n_c3 (n + 1)) 3 (.inl 0)) := by
  rw [s5_1 (by omega)]
  unfold n_s1 n_cells
  rw [u1_s]
theorem sa_9 : n_s5 P n B (n + 1) = .inr (0, az_rm P, .inl (fun _ => 0)) := by
  rw [s5_1 (by omega)]
  unfold n_s1 n_cells n_cb
  rw [u1_n _ _ (by omega), u1_n _ _ (by omega), u1_n _ _ (by omega), u1_s]
theorem sa_10 : n_s5 P n B (n + 2) = .inr (1, az_rm P, .inl (fun _ => 0)) := by
  rw [s5_1 (by omega)]
  unfold n_s1 n_cells n_cb
  rw [u1_n _ _ (by omega), u1_n _ _ (by omega), u1_s]
theorem sa_11 : n_s5 P n B (n + 3) = .inr (0, az_rm P, .inl (n_nx (az_rm P) (az_rm P))) := by
  rw [s5_1 (by omega)]
  unfold n_s1 n_cells n_cb
  rw [u1_n _ _ (by omega), u1_s]
theorem sa_14 : n_s5 P n B (n + 4) = .inr (3, P 0, .inr (n_g3 n (P 0))) := by
  have hb := pb_lt P n
  rw [s5_2 (by omega)]
  exact n_fls_a _ _ _ _ _
theorem sa_1 {t : Nat} (ht : t < P 0) : n_s5 P n B (n + 5 + 3 * t) = .inl (1, n_fv (n + 5 + 3 * t + 1) (nI (P 5))) ∧ n_s5 P n B (n + 5 + 3 * t + 1) = .inl (5, n_qv (rfv n)) ∧ n_s5 P n B (n + 5 + 3 * t + 1 + 1) = .inl (5, n_qv (rfv n)) := by
  have hb : pb1 P n = n + 5 + 3 * P 0 := rfl
  rw [s5_2 (by omega), s5_2 (by omega), s5_2 (by omega)]
  exact n_fls_at (P 0) ht
theorem sa_3o : n_s5 P n B (pb1 P n) = .inl (3, n_fo (pb1 P n + 1)) ∧ n_s5 P n B (pb1 P n + 1) = .inr (4, P 2, .inr (n_g (pb1 P n + 1) (P 2))) := by
  have hb := pb_lt P n
  rw [s5_lt (by omega), s4_lt (by omega), s5_lt (by omega), s4_lt (by omega)]
  exact ⟨n_fb_k _ _ _ _ _ _, n_fb_n (by omega)⟩
theorem sa_2o {j : Nat} (hj : j < P 2) : n_s5 P n B (pb1 P n + 1 + 1 + 2 * j) = .inl (2, u1 (ck_dv 2) 0 (rfv (pb1 P n + 1 + 1 + 2 * j + 1))) ∧ n_s5 P n B (pb1 P n + 1 + 1 + 2 * j + 1) = .inr (0, P 1 + 3, .inl (fun _ => 0)) := by
  have hb := pb_lt P n
  have hb2 : pb2 P n = pb1 P n + 2 + 2 * P 2 := rfl
  rw [s5_lt (by omega), s4_lt (by omega), s5_lt (by omega), s4_lt (by omega)]
  exact n_fb_at (by omega) hj
theorem sa_3l : n_s5 P n B (pb2 P n) = .inl (3, n_fo (pb2 P n + 1)) ∧ n_s5 P n B (pb2 P n + 1) = .inr (4, P 4, .inr (n_g (pb2 P n + 1) (P 4))) := by
  have hb := pb_lt P n
  rw [s5_lt (by omega), s5_lt (by omega)]
  exact ⟨n_fb_k _ _ _ _ _ _, n_fb_n (by omega)⟩
theorem sa_2l {j : Nat} (hj : j < P 4) : n_s5 P n B (pb2 P n + 1 + 1 + 2 * j) = .inl (2, u1 (ck_dv 2) 0 (rfv (pb2 P n + 1 + 1 + 2 * j + 1))) ∧ n_s5 P n B (pb2 P n + 1 + 1 + 2 * j + 1) = .inr (0, P 1 + 3, .inl (fun _ => 0)) := by
  have hb := pb_lt P n
  have hb3 : pb3 P n = pb2 P n + 2 + 2 * P 4 := rfl
  rw [s5_lt (by omega), s5_lt (by omega)]
  exact n_fb_at (by omega) hj
theorem sa_2d : n_s5 P n B (pb3 P n) = .inl (2, u1 (ck_dv 2) 0 (rfv (pb3 P n + 1))) ∧ n_s5 P n B (pb3 P n + 1) = .inr (0, P 1 + 3, .inl (fun _ => 0)) := by
  unfold n_s5 n_frame
  rw [u1_s, u1_n _ _ (by omega), u1_s]
  exact ⟨rfl, rfl⟩
end sideAt
/-! where each object lies: the first cell that is made has number 0 -/
def sbn (P : az_P) (s : Nat) : Nat := if s = 0 then 3 else wb2 P 1 + 1
def rbn (P : az_P) (r : Nat) : Nat := if r % 2 = 0 then pb1 P (sbn P (r / 2)) else pb2 P (sbn P (r / 2))
def ixf (P : az_P) (k : Nat) : Nat := if k < 128 then rbn P (k / 32) + 2 + 2 * (k % 32) else pb3 P (sbn P (k - 128))
def ix1 (P : az_P) (c k : Nat) : Nat := match c with
  | 0 => sbn P k
  | 9 => sbn P k + 1
  | 10 => sbn P k + 2
  | 11 => sbn P k + 3
  | 14 => sbn P k + 4
  | 1 => sbn P (k / 8) + 5 + 3 * (k % 8)
  | 5 => sbn P (k / 16) + 5 + 3 * (k / 2 % 8) + 1 + k % 2
  | 3 => rbn P k
  | 13 => rbn P k + 1
  | 2 => ixf P k
  | 12 => ixf P k + 1
  | 4 => 1
  | 6 => sbn P k - 1
  | _ => 0
def vxf (P : az_P) (k : Nat) : Prop := (k < 128 ∧ k % 32 < rl P (k / 32)) ∨ (128 ≤ k ∧ k < 130)
def vx1 (P : az_P) (c k : Nat) : Prop := match c with
  | 0 => k < 2
  | 9 => k < 2
  | 10 => k < 2
  | 11 => k < 2
  | 14 => k < 2
  | 1 => k < 16 ∧ k % 8 < P 0
  | 5 => k < 32 ∧ k / 2 % 8 < P 0
  | 3 => k < 4
  | 13 => k < 4
  | 2 => vxf P k
  | 12 => vxf P k
  | 4 => k = 0
  | 6 => k < 2
  | 7 => k = 0
  | _ => False
/-- what lies at a place of a side -/
def dxr (P : az_P) (s o : Nat) : Nat × Nat :=
  if o = 0 then (3, 2 * s) else if o = 1 then (13, 2 * s) else if o < 2 + 2 * P 2 then (if o % 2 = 0 then (2, 32 * (2 * s) + (o - 2) / 2) else (12, 32 * (2 * s) + (o - 2) / 2))
  else if o = 2 + 2 * P 2 then (3, 2 * s + 1) else if o = 3 + 2 * P 2 then (13, 2 * s + 1) else if o < 4 + 2 * P 2 + 2 * P 4 then (if o % 2 = 0 then (2, 32 * (2 * s + 1) + (o - 4 - 2 * P 2) / 2) else (12, 32 * (2 * s + 1) + (o - 4 - 2 * P 2) / 2))
  else if o = 4 + 2 * P 2 + 2 * P 4 then (2, 128 + s) else (12, 128 + s)
def dxs (P : az_P) (s o : Nat) : Nat × Nat :=
  if o = 0 then (6, s) else if o = 1 then (0, s) else if o = 2 then (9, s) else if o = 3 then (10, s) else if o = 4 then (11, s) else if o = 5 then (14, s)
  else if o < 6 + 3 * P 0 then (if (o - 6) % 3 = 0 then (1, 8 * s + (o - 6) / 3) else (5, 2 * (8 * s + (o - 6) / 3) + ((o - 6) % 3 - 1)))
  else dxr P s (o - (6 + 3 * P 0))
def dx1 (P : az_P) (i : Nat) : Nat × Nat := if i = 0 then (7, 0) else if i = 1 then (4, 0) else if i < wb2 P 1 then dxs P 0 (i - 2) else dxs P 1 (i - wb2 P 1)
theorem wb2_e (P : az_P) : wb2 P 1 = 14 + 3 * P 0 + 2 * P 2 + 2 * P 4 := by
  unfold wb2 pb3 pb2 pb1
  omega
theorem sbn_dx {P : az_P} {s i o : Nat} (hs : s < 2) (hi : i = sbn P s - 1 + o) (ho : o < 12 + 3 * P 0 + 2 * P 2 + 2 * P 4) : dx1 P i = dxs P s o := by
  have hw := wb2_e P
  unfold dx1
  rcases (by omega : s = 0 ∨ s = 1) with rfl | rfl
  · have e : sbn P 0 = 3 := rfl
    rw [if_neg (by omega), if_neg (by omega), if_pos (by omega), show i - 2 = o by omega]
  · have e : sbn P 1 = wb2 P 1 + 1 := rfl
    rw [if_neg (by omega), if_neg (by omega), if_neg (by omega), show i - wb2 P 1 = o by omega]
theorem sbn_pos (P : az_P) (s : Nat) : 3 ≤ sbn P s := by
  have hw := wb2_e P
  unfold sbn
  split <;> omega
theorem rbn_e {P : az_P} (r : Nat) : rbn P r = sbn P (r / 2) + 5 + 3 * P 0 + (if r % 2 = 0 then 0 else 2 + 2 * P 2) := by
  unfold rbn pb2 pb1
  split <;> omega
theorem dx_rg {P : az_P} {r o : Nat} (hr : r < 4) (ho : o < 2 + 2 * rl P r) : dx1 P (rbn P r + o) = if o = 0 then (3, r) else if o = 1 then (13, r) else if o % 2 = 0 then (2, 32 * r + (o - 2) / 2) else (12, 32 * r + (o - 2) / 2) := by
  have hp := sbn_pos P (r / 2)
  have e := rbn_e (P := P) r
  unfold rl at ho
  by_cases h2 : r % 2 = 0
  · rw [if_pos h2] at ho e
    rw [sbn_dx (s := r / 2) (o := 6 + 3 * P 0 + o) (by omega) (by omega) (by omega)]
    unfold dxs
    rw [if_neg (by omega), if_neg (by omega), if_neg (by omega), if_neg (by omega), if_neg (by omega), if_neg (by omega), if_neg (by omega), show 6 + 3 * P 0 + o - (6 + 3 * P 0) = o by omega]
    unfold dxr
    rw [show 2 * (r / 2) = r by omega]
    by_cases h0 : o = 0
    · rw [if_pos h0, if_pos h0]
    · rw [if_neg h0, if_neg h0]
      by_cases h1 : o = 1
      · rw [if_pos h1, if_pos h1]
      · rw [if_neg h1, if_neg h1, if_pos (by omega)]
  · rw [if_neg h2] at ho e
    rw [sbn_dx (s := r / 2) (o := 6 + 3 * P 0 + (2 + 2 * P 2 + o)) (by omega) (by omega) (by omega)]
    unfold dxs
    rw [if_neg (by omega), if_neg (by omega), if_neg (by omega), if_neg (by omega), if_neg (by omega), if_neg (by omega), if_neg (by omega), show 6 + 3 * P 0 + (2 + 2 * P 2 + o) - (6 + 3 * P 0) = 2 + 2 * P 2 + o by omega]
    unfold dxr
    rw [if_neg (by omega), if_neg (by omega), if_neg (by omega), show 2 * (r / 2) + 1 = r by omega]
    by_cases h0 : o = 0
    · rw [if_pos (by omega), if_pos h0]
    · rw [if_neg (by omega), if_neg h0]
      by_cases h1 : o = 1
      · rw [if_pos (by omega), if_pos h1]
      · rw [if_neg (by omega), if_neg h1, if_pos (by omega)]
        by_cases hm : o % 2 = 0
        · rw [if_pos (by omega), if_pos hm, show 2 + 2 * P 2 + o - 4 - 2 * P 2 = o - 2 by omega]
        · rw [if_neg (by omega), if_neg hm, show 2 + 2 * P 2 + o - 4 - 2 * P 2 = o - 2 by omega]
theorem dx_f {P : az_P} {k : Nat} (h : vxf P k) : dx1 P (ixf P k) = (2, k) ∧ dx1 P (ixf P k + 1) = (12, k) := by
  unfold ixf
  rcases h with ⟨h1, h2⟩ | ⟨h1, h2⟩
  · rw [if_pos h1, Nat.add_assoc (rbn P (k / 32)), dx_rg (r := k / 32) (by omega) (by omega), if_neg (by omega), if_neg (by omega), if_pos (by omega), Nat.add_assoc (rbn P (k / 32)), dx_rg (r := k / 32) (by omega) (by omega), if_neg (by omega), if_neg (by omega), if_neg (by omega)]
    constructor
    · congr 1
      omega
    · congr 1
      omega
  · have hp := sbn_pos P (k - 128)
    rw [if_neg (by omega)]
    have e : pb3 P (sbn P (k - 128)) = sbn P (k - 128) + 9 + 3 * P 0 + 2 * P 2 + 2 * P 4 := by
      unfold pb3 pb2 pb1
      omega
    rw [sbn_dx (s := k - 128) (o := 10 + 3 * P 0 + 2 * P 2 + 2 * P 4) (by omega) (by omega) (by omega), sbn_dx (s := k - 128) (o := 11 + 3 * P 0 + 2 * P 2 + 2 * P 4) (by omega) (by omega) (by omega)]
    unfold dxs
    rw [if_neg (by omega), if_neg (by omega), if_neg (by omega), if_neg (by omega), if_neg (by omega), if_neg (by omega), if_neg (by omega), if_neg (by omega), if_neg (by omega), if_neg (by omega), if_neg (by omega), if_neg (by omega), if_neg (by omega), if_neg (by omega)]
    unfold dxr
    rw [if_neg (by omega), if_neg (by omega), if_neg (by omega), if_neg (by omega), if_neg (by omega), if_neg (by omega), if_pos (by omega), if_neg (by omega), if_neg (by omega), if_neg (by omega), if_neg (by omega), if_neg (by omega), if_neg (by omega), if_neg (by omega), show 128 + (k - 128) = k by omega]
    exact ⟨rfl, rfl⟩
theorem dx_sd {P : az_P} {s : Nat} (hs : s < 2) {o : Nat} (ho : o < 6) : dx1 P (sbn P s - 1 + o) = dxs P s o := sbn_dx hs rfl (by omega)
theorem dx_ok {P : az_P} {c k : Nat} (h : vx1 P c k) : dx1 P (ix1 P c k) = (c, k) := by
  unfold vx1 at h
  split at h
  · have hp := sbn_pos P k
    show dx1 P (sbn P k) = _
    rw [sbn_dx (s := k) (o := 1) h (by omega) (by omega)]
    rfl
  · have hp := sbn_pos P k
    show dx1 P (sbn P k + 1) = _
    rw [sbn_dx (s := k) (o := 2) h (by omega) (by omega)]
    rfl
  · have hp := sbn_pos P k
    show dx1 P (sbn P k + 2) = _
    rw [sbn_dx (s := k) (o := 3) h (by omega) (by omega)]
    rfl
  · have hp := sbn_pos P k
    show dx1 P (sbn P k + 3) = _
    rw [sbn_dx (s := k) (o := 4) h (by omega) (by omega)]
    rfl
  · have hp := sbn_pos P k
    show dx1 P (sbn P k + 4) = _
    rw [sbn_dx (s := k) (o := 5) h (by omega) (by omega)]
    rfl
  · have hp := sbn_pos P (k / 8)
    show dx1 P (sbn P (k / 8) + 5 + 3 * (k % 8)) = _
    rw [sbn_dx (s := k / 8) (o := 6 + 3 * (k % 8)) (by omega) (by omega) (by omega)]
    unfold dxs
    rw [if_neg (by omega), if_neg (by omega), if_neg (by omega), if_neg (by omega), if_neg (by omega), if_neg (by omega), if_pos (by omega), if_pos (by omega)]
    congr 1
    omega
  · have hp := sbn_pos P (k / 16)
    show dx1 P (sbn P (k / 16) + 5 + 3 * (k / 2 % 8) + 1 + k % 2) = _
    rw [sbn_dx (s := k / 16) (o := 6 + 3 * (k / 2 % 8) + 1 + k % 2) (by omega) (by omega) (by omega)]
    unfold dxs
    rw [if_neg (by omega), if_neg (by omega), if_neg (by omega), if_neg (by omega), if_neg (by omega), if_neg (by omega), if_pos (by omega), if_neg (by omega)]
    congr 1
    omega
  · have := dx_rg (P := P) (r := k) (o := 0) h (by omega)
    exact this
  · have := dx_rg (P := P) (r := k) (o := 1) h (by omega)
    exact this
  · exact (dx_f h).1
  · exact (dx_f h).2
  · rw [h]
    rfl
  · have hp := sbn_pos P k
    show dx1 P (sbn P k - 1) = _
    rw [sbn_dx (s := k) (o := 0) h (by omega) (by omega)]
    rfl
  · rw [h]
    rfl
  · exact h.elim
