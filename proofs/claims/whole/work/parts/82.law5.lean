/-! The law: its sixteen operations -/
def p_open (P : az_P) : lw_O := o2 (O_open P)
theorem kx_open {P : az_P} (hP : az_ok P) : lx_sp P (fX7_open (lz P)) (p_open P) := lx2 (g := gX7_open (lz P)) (fun i j σ A ha hc => by
  have k0 := K_open hP hc i j
  exact ⟨k0.1, congrArg (fun z => some (Sum.inl z)) k0.2.1, k0.2.2, ai_open hP ha i j⟩)
theorem km_open {P : az_P} (hP : az_ok P) : lm_sp P (fX8_open (lz P)) (p_open P) := lm2 (g := gX8_open (lz P)) (kx_open hP) (fun i j σ1 σ A ha hc hm => by
  have k0 := L_open hP hm i j
  exact ⟨k0.1, congrArg (fun z => some (Sum.inl z)) k0.2.1, k0.2.2⟩)
def p_send (P : az_P) : lw_O := o3 (fun i j k => O_put P i j k 0)
theorem kx_send {P : az_P} (hP : az_ok P) : lx_sp P (fX7_send (lz P)) (p_send P) := lx3 (g := gX7_send (lz P)) (fun i j k σ A ha hc => by
  have k0 := K_put hP ha hc i j k 0
  exact ⟨k0.1, congrArg (fun z => some (Sum.inl z)) k0.2.1, k0.2.2, ai_put hP ha i j k (Or.inl rfl)⟩)
theorem km_send {P : az_P} (hP : az_ok P) : lm_sp P (fX8_send (lz P)) (p_send P) := lm3 (g := gX8_send (lz P)) (kx_send hP) (fun i j k σ1 σ A ha hc hm => by
  have k0 := L_put hP ha hm i j k (b := 0) (Or.inl rfl)
  exact ⟨k0.1, congrArg (fun z => some (Sum.inl z)) k0.2.1, k0.2.2⟩)
def p_mark (P : az_P) : lw_O := o2 (fun i j => O_put P i j 0 1)
theorem kx_mark {P : az_P} (hP : az_ok P) : lx_sp P (fX7_mark (lz P)) (p_mark P) := lx2 (g := gX7_mark (lz P)) (fun i j σ A ha hc => by
  have k0 := K_put hP ha hc i j 0 1
  exact ⟨k0.1, congrArg (fun z => some (Sum.inl z)) k0.2.1, k0.2.2, ai_put hP ha i j 0 (Or.inr rfl)⟩)
theorem km_mark {P : az_P} (hP : az_ok P) : lm_sp P (fX8_mark (lz P)) (p_mark P) := lm2 (g := gX8_mark (lz P)) (kx_mark hP) (fun i j σ1 σ A ha hc hm => by
  have k0 := L_put hP ha hm i j 0 (b := 1) (Or.inr rfl)
  exact ⟨k0.1, congrArg (fun z => some (Sum.inl z)) k0.2.1, k0.2.2⟩)
def p_close (P : az_P) : lw_O := o2 (O_close P)
theorem kx_close {P : az_P} (hP : az_ok P) : lx_sp P (fX7_close (lz P)) (p_close P) := lx2 (g := gX7_close (lz P)) (fun i j σ A ha hc => by
  have k0 := K_close hP hc i j
  exact ⟨k0.1, congrArg (fun z => some (Sum.inl z)) k0.2.1, k0.2.2, ai_close ha i j⟩)
theorem km_close {P : az_P} (hP : az_ok P) : lm_sp P (fX8_close (lz P)) (p_close P) := lm2 (g := gX8_close (lz P)) (kx_close hP) (fun i j σ1 σ A ha hc hm => by
  have k0 := L_close hP hm i j
  exact ⟨k0.1, congrArg (fun z => some (Sum.inl z)) k0.2.1, k0.2.2⟩)
def p_receive (P : az_P) : lw_O := o2 (O_recv P)
theorem kx_receive {P : az_P} (hP : az_ok P) : lx_sp P (fX7_receive (lz P)) (p_receive P) := lx2 (g := gX7_receive (lz P)) (fun i j σ A ha hc => by
  have k0 := K_recv hP ha hc i j
  exact ⟨k0.1, congrArg (fun z => some (Sum.inl z)) k0.2.1, k0.2.2, ai_recv ha i j⟩)
theorem km_receive {P : az_P} (hP : az_ok P) : lm_sp P (fX8_receive (lz P)) (p_receive P) := lm2 (g := gX8_receive (lz P)) (kx_receive hP) (fun i j σ1 σ A ha hc hm => by
  have k0 := L_recv hP ha hm i j
  exact ⟨k0.1, congrArg (fun z => some (Sum.inl z)) k0.2.1, k0.2.2⟩)
def p_word (P : az_P) : lw_O := o1 (fun i A => (O_word i A, A))
theorem kx_word {P : az_P} (hP : az_ok P) : lx_sp P (fX7_word (lz P)) (p_word P) := lx1 (g := gX7_word (lz P)) (fun i σ A ha hc => by
  have k0 := K_word hc i
  refine ⟨k0.1, congrArg (fun z => some (Sum.inl z)) k0.2.1, ?_, ha⟩
  have e := k0.2.2
  show crx P (gX7_word (lz P) 0 i σ).2.2 A
  rw [show (gX7_word (lz P) 0 i σ).2.2 = σ from e]
  exact hc)
theorem km_word {P : az_P} (hP : az_ok P) : lm_sp P (fX8_word (lz P)) (p_word P) := lm1 (g := gX8_word (lz P)) (kx_word hP) (fun i σ1 σ A ha hc hm => by
  have k0 := L_word hm i
  exact ⟨k0.1, congrArg (fun z => some (Sum.inl z)) k0.2, hm⟩)
def p_weight (P : az_P) : lw_O := o3 (O_weight P)
theorem kx_weight {P : az_P} (hP : az_ok P) : lx_sp P (fX7_weight (lz P)) (p_weight P) := lx3 (g := gX7_weight (lz P)) (fun i j k σ A ha hc => by
  have k0 := K_weight hP hc i j k
  exact ⟨k0.1, congrArg (fun z => some (Sum.inl z)) k0.2.1, k0.2.2, ai_weight ha i j k⟩)
theorem km_weight {P : az_P} (hP : az_ok P) : lm_sp P (fX8_weight (lz P)) (p_weight P) := lm3 (g := gX8_weight (lz P)) (kx_weight hP) (fun i j k σ1 σ A ha hc hm => by
  have k0 := L_weight hP hm i j k
  exact ⟨k0.1, congrArg (fun z => some (Sum.inl z)) k0.2.1, k0.2.2⟩)
def p_pump (P : az_P) : lw_O := o1 (O_pump P)
theorem kx_pump {P : az_P} (hP : az_ok P) : lx_sp P (fX7_pump (lz P)) (p_pump P) := lx1 (g := gX7_pump (lz P)) (fun i σ A ha hc => by
  have k0 := K_pump hP ha hc i
  exact ⟨k0.1, congrArg (fun z => some (Sum.inl z)) k0.2.1, k0.2.2.1, k0.2.2.2⟩)
theorem km_pump {P : az_P} (hP : az_ok P) : lm_sp P (fX8_pump (lz P)) (p_pump P) := lm1 (g := gX8_pump (lz P)) (kx_pump hP) (fun i σ1 σ A ha hc hm => by
  have k0 := L_pump hP ha hm i
  exact ⟨k0.1, congrArg (fun z => some (Sum.inl z)) k0.2.1, k0.2.2⟩)
def p_drain (P : az_P) : lw_O := o2 (O_drain P)
theorem kx_drain {P : az_P} (hP : az_ok P) : lx_sp P (fX7_drain (lz P)) (p_drain P) := lx2 (g := gX7_drain (lz P)) (fun i j σ A ha hc => by
  have k0 := K_drain hP ha hc i j
  exact ⟨k0.1, congrArg (fun z => some (Sum.inl z)) k0.2.1, k0.2.2.1, k0.2.2.2⟩)
theorem km_drain {P : az_P} (hP : az_ok P) : lm_sp P (fX8_drain (lz P)) (p_drain P) := lm2 (g := gX8_drain (lz P)) (kx_drain hP) (fun i j σ1 σ A ha hc hm => by
  have k0 := L_drain hP ha hc hm i j
  exact ⟨k0.1, congrArg (fun z => some (Sum.inl z)) k0.2.1, k0.2.2⟩)
def p_deliver (P : az_P) : lw_O := o1 (O_deliver P)
theorem kx_deliver {P : az_P} (hP : az_ok P) : lx_sp P (fX7_deliver (lz P)) (p_deliver P) := lx1 (g := gX7_deliver (lz P)) (fun i σ A ha hc => by
  have k0 := K_deliver hP ha hc i
  exact ⟨k0.1, congrArg (fun z => some (Sum.inl z)) k0.2.1, k0.2.2.1, k0.2.2.2⟩)
theorem km_deliver {P : az_P} (hP : az_ok P) : lm_sp P (fX8_deliver (lz P)) (p_deliver P) := lm1 (g := gX8_deliver (lz P)) (kx_deliver hP) (fun i σ1 σ A ha hc hm => by
  have k0 := L_deliver hP ha hm i
  exact ⟨k0.1, congrArg (fun z => some (Sum.inl z)) k0.2.1, k0.2.2⟩)
def p_lose (P : az_P) : lw_O := o1 (O_lose)
theorem kx_lose {P : az_P} (hP : az_ok P) : lx_sp P (fX7_lose (lz P)) (p_lose P) := lx1 (g := gX7_lose (lz P)) (fun i σ A ha hc => by
  have k0 := K_lose hP hc i
  exact ⟨k0.1, congrArg (fun z => some (Sum.inl z)) k0.2.1, k0.2.2, ai_lose ha i⟩)
theorem km_lose {P : az_P} (hP : az_ok P) : lm_sp P (fX8_lose (lz P)) (p_lose P) := lm1 (g := gX8_lose (lz P)) (kx_lose hP) (fun i σ1 σ A ha hc hm => by
  have k0 := L_lose hP ha hm i
  exact ⟨k0.1, congrArg (fun z => some (Sum.inl z)) k0.2.1, k0.2.2⟩)
def p_corrupt (P : az_P) : lw_O := o3 (O_corrupt)
theorem kx_corrupt {P : az_P} (hP : az_ok P) : lx_sp P (fX7_corrupt (lz P)) (p_corrupt P) := lx3 (g := gX7_corrupt (lz P)) (fun i j k σ A ha hc => by
  have k0 := K_corrupt hP ha hc i j k
  exact ⟨k0.1, congrArg (fun z => some (Sum.inl z)) k0.2.1, k0.2.2, ai_corrupt ha i j k⟩)
theorem km_corrupt {P : az_P} (hP : az_ok P) : lm_sp P (fX8_corrupt (lz P)) (p_corrupt P) := lm3 (g := gX8_corrupt (lz P)) (kx_corrupt hP) (fun i j k σ1 σ A ha hc hm => by
  have k0 := L_corrupt hP ha hm i j k
  exact ⟨k0.1, congrArg (fun z => some (Sum.inl z)) k0.2.1, k0.2.2⟩)
def p_timeout (P : az_P) : lw_O := o1 (O_timeout P)
theorem kx_timeout {P : az_P} (hP : az_ok P) : lx_sp P (fX7_timeout (lz P)) (p_timeout P) := lx1 (g := gX7_timeout (lz P)) (fun i σ A ha hc => by
  have k0 := K_timeout hP ha hc i
  exact ⟨k0.1, congrArg (fun z => some (Sum.inl z)) k0.2.1, k0.2.2.1, k0.2.2.2⟩)
theorem km_timeout {P : az_P} (hP : az_ok P) : lm_sp P (fX8_timeout (lz P)) (p_timeout P) := lm1 (g := gX8_timeout (lz P)) (kx_timeout hP) (fun i σ1 σ A ha hc hm => by
  have k0 := L_timeout hP ha hm i
  exact ⟨k0.1, congrArg (fun z => some (Sum.inl z)) k0.2.1, k0.2.2⟩)
def p_wire (P : az_P) : lw_O := o3 (fun i j k A => (O_wire i j k A, A))
theorem kx_wire {P : az_P} (hP : az_ok P) : lx_sp P (fX7_wire (lz P)) (p_wire P) := lx3 (g := gX7_wire (lz P)) (fun i j k σ A ha hc => by
  have k0 := K_wire hP ha hc i j k
  refine ⟨k0.1, congrArg (fun z => some (Sum.inl z)) k0.2.1, ?_, ha⟩
  have e := k0.2.2
  show crx P (gX7_wire (lz P) 0 i j k σ).2.2 A
  rw [show (gX7_wire (lz P) 0 i j k σ).2.2 = σ from e]
  exact hc)
theorem km_wire {P : az_P} (hP : az_ok P) : lm_sp P (fX8_wire (lz P)) (p_wire P) := lm3 (g := gX8_wire (lz P)) (kx_wire hP) (fun i j k σ1 σ A ha hc hm => by
  have k0 := L_wire hP ha hm i j k
  exact ⟨k0.1, congrArg (fun z => some (Sum.inl z)) k0.2, hm⟩)
def p_stream (P : az_P) : lw_O := o3 (fun i j k A => (O_stream P i j k A, A))
theorem kx_stream {P : az_P} (hP : az_ok P) : lx_sp P (fX7_stream (lz P)) (p_stream P) := lx3 (g := gX7_stream (lz P)) (fun i j k σ A ha hc => by
  have k0 := K_stream hP hc i j k
  refine ⟨k0.1, congrArg (fun z => some (Sum.inl z)) k0.2.1, ?_, ha⟩
  have e := k0.2.2
  show crx P (gX7_stream (lz P) 0 i j k σ).2.2 A
  rw [show (gX7_stream (lz P) 0 i j k σ).2.2 = σ from e]
  exact hc)
theorem km_stream {P : az_P} (hP : az_ok P) : lm_sp P (fX8_stream (lz P)) (p_stream P) := lm3 (g := gX8_stream (lz P)) (kx_stream hP) (fun i j k σ1 σ A ha hc hm => by
  have k0 := L_stream hP hm i j k
  exact ⟨k0.1, congrArg (fun z => some (Sum.inl z)) k0.2, hm⟩)
def p_side (P : az_P) : lw_O := o2 (fun i j A => (O_side P i j A, A))
theorem kx_side {P : az_P} (hP : az_ok P) : lx_sp P (fX7_side (lz P)) (p_side P) := lx2 (g := gX7_side (lz P)) (fun i j σ A ha hc => by
  have k0 := K_side hP ha hc i j
  refine ⟨k0.1, congrArg (fun z => some (Sum.inl z)) k0.2.1, ?_, ha⟩
  have e := k0.2.2
  show crx P (gX7_side (lz P) 0 i j σ).2.2 A
  rw [show (gX7_side (lz P) 0 i j σ).2.2 = σ from e]
  exact hc)
theorem km_side {P : az_P} (hP : az_ok P) : lm_sp P (fX8_side (lz P)) (p_side P) := lm2 (g := gX8_side (lz P)) (kx_side hP) (fun i j σ1 σ A ha hc hm => by
  have k0 := L_side hP ha hm i j
  exact ⟨k0.1, congrArg (fun z => some (Sum.inl z)) k0.2, hm⟩)
def jcLB (P : az_P) (L : Nat) (xs : Nat → Int32) : gs_C lw_T := [(11, 0, 1, sc_len L), (8, 0, 2, sc_ld L xs), (0, 21, 3, lx (p_open P)), (0, 25, 3, lm (p_open P)), (0, 26, 4, lx (p_send P)), (0, 30, 4, lm (p_send P)), (0, 31, 3, lx (p_mark P)), (0, 34, 3, lm (p_mark P)), (0, 35, 3, lx (p_close P)), (0, 38, 3, lm (p_close P)), (0, 39, 3, lx (p_receive P)), (0, 42, 3, lm (p_receive P)), (0, 43, 2, lx (p_word P)), (0, 47, 2, lm (p_word P)), (0, 48, 4, lx (p_weight P)), (0, 51, 4, lm (p_weight P)), (0, 52, 2, lx (p_pump P)), (0, 55, 2, lm (p_pump P)), (0, 56, 3, lx (p_drain P)), (0, 59, 3, lm (p_drain P)), (0, 60, 2, lx (p_deliver P)), (0, 63, 2, lm (p_deliver P)), (0, 64, 2, lx (p_lose P)), (0, 68, 2, lm (p_lose P)), (0, 69, 4, lx (p_corrupt P)), (0, 73, 4, lm (p_corrupt P)), (0, 74, 2, lx (p_timeout P)), (0, 77, 2, lm (p_timeout P)), (0, 78, 4, lx (p_wire P)), (0, 81, 4, lm (p_wire P)), (0, 82, 4, lx (p_stream P)), (0, 85, 4, lm (p_stream P)), (0, 86, 3, lx (p_side P)), (0, 89, 3, lm (p_side P))]
