/-! The pure part: drain and timeout of the class -/
def O_drain (P : az_P) (i n : Int32) (A : az) : Int32 × az := match dS i with
  | none => (-1, A)
  | some s => if n < 0 then (-1, A) else if n ≤ 1000 then o_dl P s n.toNatClampNeg 0 A else (-1, A)
theorem K_drain {P : az_P} (hP : az_ok P) {σ : sw_S} {A : az} (hai : ai P A) (h : crx P σ A) (i n : Int32) : (gX7_drain (lz P) 0 i n σ).1 ∧ (wi_dn (lz P) i n σ).1 = (O_drain P i n A).1 ∧ crx P (wi_dn (lz P) i n σ).2 (O_drain P i n A).2 ∧ ai P (O_drain P i n A).2 := by
  refine ⟨fun s hs => dp_ab hP hs _ σ A hai h, ?_⟩
  rcases dS_of i with ⟨s, hs, he, h1, h2, h3⟩ | ⟨h1, h2, h3⟩
  · unfold O_drain wi_dn
    rw [h1, h2]
    show (if n < 0 then (-1, σ) else if n ≤ 1000 then wi_dl (lz P) s n.toNatClampNeg 0 σ else (-1, σ)).1 = (if n < 0 then (-1, A) else if n ≤ 1000 then o_dl P s n.toNatClampNeg 0 A else (-1, A)).1 ∧ crx P (if n < 0 then (-1, σ) else if n ≤ 1000 then wi_dl (lz P) s n.toNatClampNeg 0 σ else (-1, σ)).2 (if n < 0 then (-1, A) else if n ≤ 1000 then o_dl P s n.toNatClampNeg 0 A else (-1, A)).2 ∧ ai P (if n < 0 then (-1, A) else if n ≤ 1000 then o_dl P s n.toNatClampNeg 0 A else (-1, A)).2
    by_cases a1 : n < 0
    · rw [if_pos a1, if_pos a1]
      exact ⟨rfl, h, hai⟩
    · rw [if_neg a1, if_neg a1]
      by_cases a2 : n ≤ 1000
      · rw [if_pos a2, if_pos a2]
        exact dl_ab hP hs _ 0 σ A hai h
      · rw [if_neg a2, if_neg a2]
        exact ⟨rfl, h, hai⟩
  · unfold O_drain wi_dn
    rw [h1, h2]
    exact ⟨rfl, h, hai⟩
/-- a frame sent before, with a new WANTED -/
def o_r0 (l : List Int32) (x : Int32) : List Int32 := l.set 0 (l.getD 0 0 ^^^ (((sw_ushr (l.getD 0 0) 16 &&& 255) ^^^ x) <<< (16 &&& 31)))
def o_rw (l : List Int32) (x : Int32) : List Int32 := o_seal (o_r0 l x).dropLast
theorem o_rw_len {l : List Int32} (h : 1 ≤ l.length) (x : Int32) : (o_rw l x).length = l.length := by
  unfold o_rw o_r0
  rw [o_seal_len, List.length_dropLast, List.length_set]
  omega
theorem cFr_renew {P : az_P} (hP : az_ok P) {σ : sw_S} {k : Nat} {l : List Int32} (h : cFr (σ 2) (σ 12) k l) (h2 : 2 ≤ l.length) (hl : l.length ≤ P 1 + 3) (x : Int32) : cFr ((gX2_renew (lz P) k x σ).2.2 2) ((gX2_renew (lz P) k x σ).2.2 12) k (o_rw l x) ∧ fx k σ (gX2_renew (lz P) k x σ).2.2 := by
  have hp := hP.2.1
  have e0 : fr_at σ k 0 = l.getD 0 0 := by
    rw [cFr_la h (by omega), ← nI_0]
    exact la_nI (by omega) (by omega)
  have ew : fr_wa σ k = sw_ushr (l.getD 0 0) 16 &&& 255 := by
    show sw_ushr (fr_at σ k 0) 16 &&& 255 = _
    rw [e0]
  obtain ⟨c1, c2⟩ := cFr_flip (P := P) h (i := 0) (by omega) (by omega) ((fr_wa σ k ^^^ x) <<< (16 &&& 31))
  rw [nI_0] at c1 c2
  have er : fr_rf (lz P) k x σ = (gX2_flip (lz P) k 0 ((fr_wa σ k ^^^ x) <<< (16 &&& 31)) σ).2.2 := rfl
  rw [← er, ew] at c1
  rw [← er] at c2
  have c1 : cFr (fr_rf (lz P) k x σ 2) (fr_rf (lz P) k x σ 12) k (o_r0 l x) := c1
  have hlen : (o_r0 l x).length = l.length := by unfold o_r0; rw [List.length_set]
  have erl : fr_rl (fr_rf (lz P) k x σ) k = nI (l.length - 1) := by
    unfold fr_rl
    rw [c1.1, hlen, show (1 : Int32) = nI 1 from rfl, nI_sub (by omega)]
  have ere : fr_re (lz P) k x σ = sw_up (fr_rf (lz P) k x σ) 2 k 1 (nI (l.length - 1)) := by
    unfold fr_re
    rw [erl, if_pos (Int32.not_le.mp (nI_nle (by omega) (by omega)))]
  have c3 : cFr (fr_re (lz P) k x σ 2) (fr_re (lz P) k x σ 12) k (o_r0 l x).dropLast := by
    rw [ere]
    refine ⟨?_, fun j hj => ?_⟩
    · rw [sw_ups, u2_s, List.length_dropLast, hlen]
    · rw [List.length_dropLast] at hj
      rw [sw_upc _ (by decide), c1.2 j (by omega), List.getD_eq_getElem?_getD, List.getD_eq_getElem?_getD, List.getElem?_dropLast, if_pos (by omega)]
  have c4 : fx k σ (fr_re (lz P) k x σ) := by
    rw [ere]
    exact c2.tr (fx_2 _ k _)
  obtain ⟨c5, c6⟩ := cFr_seal hP c3 (by rw [List.length_dropLast, hlen]; omega)
  exact ⟨c5, c4.tr c6⟩
def o_ag (P : az_P) (s : Nat) : Nat → Nat → Int32 → az → Int32 × az
  | 0, _, x, A => (x, A)
  | d + 1, j, x, A => if (A.2.2 (2 * s + 1)).length < P 4 then o_ag P s d (j + 1) (x + 1) (o_ln s (o_rw ((A.2.2 (2 * s)).getD j []) (A.1 29 s)) A) else (x, A)
theorem ag_ab {P : az_P} (hP : az_ok P) {s : Nat} (hs : s < 2) : ∀ (d j : Nat) (x : Int32) (σ : sw_S) (A : az), ai P A → crx P σ A → j + d = (A.2.2 (2 * s)).length → (sd_ag (lz P) s d j x σ).1 = (o_ag P s d j x A).1 ∧ crx P (sd_ag (lz P) s d j x σ).2 (o_ag P s d j x A).2 ∧ ai P (o_ag P s d j x A).2
  | 0, _, x, σ, A, hai, h, _ => ⟨rfl, h, hai⟩
  | d + 1, j, x, σ, A, hai, h, hj => by
    have hp := hP.2.1
    have h' := h
    obtain ⟨Q, SP, h0⟩ := h'
    have ec : sd_ag (lz P) s (d + 1) j x σ = if rg_ro (lz P) (2 * s + 1) σ = 0 then (x, σ) else sd_om (sd_ag (lz P) s d (j + 1) x σ) (fun q => sd_ag (lz P) s d (j + 1) (x + 1) (sd_a3 (lz P) s q.2 σ)) (rg_fa (lz P) (2 * s) (nI j) σ) := rfl
    have ea : o_ag P s (d + 1) j x A = if (A.2.2 (2 * s + 1)).length < P 4 then o_ag P s d (j + 1) (x + 1) (o_ln s (o_rw ((A.2.2 (2 * s)).getD j []) (A.1 29 s)) A) else (x, A) := rfl
    rw [ec, ea, rg_ro_go hP h0.2.2.2.2.1, (rl_e P s).2]
    by_cases c1 : (A.2.2 (2 * s + 1)).length < P 4
    · rw [if_pos c1, if_neg (by decide), if_pos c1]
      obtain ⟨k, k1, k2, k3⟩ := rg_fa_go hP h0.2.2.2.2.1 (r := 2 * s) (n := j) (by omega)
      rw [k1]
      show (sd_ag (lz P) s d (j + 1) (x + 1) (sd_a3 (lz P) s k σ)).1 = _ ∧ crx P (sd_ag (lz P) s d (j + 1) (x + 1) (sd_a3 (lz P) s k σ)).2 _ ∧ _
      obtain ⟨l, hl⟩ : ∃ l, l = (A.2.2 (2 * s)).getD j [] := ⟨_, rfl⟩
      have hm := ((hai.2.2.2.2 (2 * s)).2 _ (getD_mem (n := j) (by omega))).1
      rw [← hl] at k2 hm ⊢
      have hk := k3 (by omega)
      obtain ⟨b1, b2⟩ := cFr_copy hP (k := 128 + s) (o := k) (by omega) k2 hm.2
      have g1 := (copy_go (lz_lo hP) h0.2.2.2.2.2 (128 + s) k).2
      have h1 := cr_fx hP h0 hai.2.2.2 (by omega) b2 g1
      have e6 : sd_a1 (lz P) s k σ 6 s 6 = A.1 29 s := h1.2.1 s 6 (by decide) (by decide)
      obtain ⟨b3, b4⟩ := cFr_renew hP b1 hm.1 hm.2 (A.1 29 s)
      have g2 := (renew_go (lz_lo hP) g1 (128 + s) (A.1 29 s)).2
      have h2 := cr_fx hP h1 hai.2.2.2 (by omega) b4 g2
      have h3 : cd P (sd_a2 (lz P) s k σ) A s (o_rw l (A.1 29 s)) := by
        unfold sd_a2
        rw [e6]
        exact ⟨Q, SP, h2, b3⟩
      have rn : (A.2.2 (2 * s + 1)).length < rl P (2 * s + 1) := by rw [(rl_e P s).2]; exact c1
      have hlen := o_rw_len (l := l) (by omega) (A.1 29 s)
      have h4 := sd_sd_ab hP h3 hai.2.2.2 (by rw [hlen]; exact hm.2) hs rn
      have h5 : ai P (o_ln s (o_rw l (A.1 29 s)) A) := ai_ln hP hai hs (by rw [hlen]; exact hm) rn
      refine ag_ab hP hs d (j + 1) (x + 1) _ _ h5 h4 ?_
      show j + 1 + d = (u1 A.2.2 (2 * s + 1) _ (2 * s)).length
      rw [u1_n _ _ (by omega)]
      omega
    · rw [if_neg c1, if_pos rfl, if_neg c1]
      exact ⟨rfl, h, hai⟩
def O_timeout (P : az_P) (i : Int32) (A : az) : Int32 × az := match dS i with
  | none => (-1, A)
  | some s => o_ag P s (A.2.2 (2 * s)).length 0 0 A
theorem K_timeout {P : az_P} (hP : az_ok P) {σ : sw_S} {A : az} (hai : ai P A) (h : crx P σ A) (i : Int32) : (gX7_timeout (lz P) 0 i σ).1 ∧ (wi_timeout (lz P) i σ).1 = (O_timeout P i A).1 ∧ crx P (wi_timeout (lz P) i σ).2 (O_timeout P i A).2 ∧ ai P (O_timeout P i A).2 := by
  have h' := h
  obtain ⟨Q, SP, h0⟩ := h'
  refine ⟨⟨lz_lo hP, h0.2.2.2.2.2, cr_rz hP h0⟩, ?_⟩
  rcases dS_of i with ⟨s, hs, he, h1, h2, h3⟩ | ⟨h1, h2, h3⟩
  · unfold O_timeout wi_timeout
    rw [h1, h2]
    obtain ⟨a, -, -, g3, g4, -⟩ := h0.2.2.2.2.1 (2 * s)
    have := rl_lt hP (2 * s)
    show (sd_ag (lz P) s (σ 3 (2 * s) 2).toNatClampNeg 0 0 σ).1 = _ ∧ crx P (sd_ag (lz P) s (σ 3 (2 * s) 2).toNatClampNeg 0 0 σ).2 _ ∧ _
    rw [g3, nI_clamp (by omega)]
    exact ag_ab hP hs _ 0 0 σ A hai h (by omega)
  · unfold O_timeout wi_timeout
    rw [h1, h2]
    exact ⟨rfl, h, hai⟩
