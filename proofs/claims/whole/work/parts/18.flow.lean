/-! Flow -/
def bi (x : Int32) : Int32 := if x = 0 then 0 else 1
def gX7_bit (ln : sw_A) (x : Int32) (σ : sw_S) : sw_X := (True, some (.inl (bi x)), σ)
def fX7_bit (ln : sw_A) : sw_F := sw_fi (gX7_bit ln)
def ctX7_bit (ln : sw_A) : sw_C := []
abbrev wX7_bit (ln : sw_A) (Q : Option sw_V → sw_S → Prop) : Nat → Nat → sw_L → List sw_V → sw_S → Prop := sw_wp sw_rf ln (ctX7_bit ln) sX7_bit 1 9 tX7_bit Q
theorem hX7_bit (ln : sw_A) (x : Int32) (σ : sw_S) (h : (gX7_bit ln x σ).1) : ∃ fuel, wX7_bit ln (sw_end (gX7_bit ln x σ)) fuel 0 (sw_ent 1 [.inl x]) [] σ :=
  ⟨10, And.intro (fun (h1 : x = 0) => ⟨sw_ri (if_pos h1).symm, rfl⟩) (fun (h1 : ¬ x = 0) => ⟨sw_ri (if_neg h1).symm, rfl⟩)⟩
set_option maxRecDepth 100000 in
theorem mX7_bit {l : Launch} {ad : sw_A} {V : Nat → Nat → Prop} {ln : sw_A} {ca : Nat → ClassId} {D : va_G} (hG : sw_wf ad V sw_rf ln) : sw_met l ad V sw_rf ln ca D yX7_bit cX7_bit 1 (some .int) { frames := 0, cells := 0, slots := 0, locals := 0 } 1 (fX7_bit ln) := by
  refine sw_meth hG (by decide) (by refine ⟨?_, ?_, ?_, ?_⟩ <;> intro h <;> first | rfl | exact ⟨_, rfl⟩ | exact absurd h (by decide)) (by decide) kX7_bit flX7_in cnX7_in ?_ (sw_fi_h (W := fun Q L σ => ∃ fuel, wX7_bit ln Q fuel 0 L [] σ) (fun a0 σ h => hX7_bit ln a0 σ h))
  intro p e s m args below meth c S hT hnw
  exact fun q h => absurd h List.not_mem_nil
def fl_bo (w : Nat) (σ : sw_S) : sw_S := sw_up (sw_up σ 1 w 3 1) 1 w 5 (sw_up σ 1 w 3 1 1 w 2)
def gX1_becomeOpen (ln : sw_A) (w : Nat) (σ : sw_S) : sw_X := (True, none, fl_bo w σ)
def fX1_becomeOpen (ln : sw_A) : sw_F := sw_fo 1 (gX1_becomeOpen ln)
def ctX1_becomeOpen (ln : sw_A) : sw_C := []
abbrev wX1_becomeOpen (ln : sw_A) (Q : Option sw_V → sw_S → Prop) : Nat → Nat → sw_L → List sw_V → sw_S → Prop := sw_wp sw_rf ln (ctX1_becomeOpen ln) sX1_becomeOpen 0 13 tX1_becomeOpen Q
theorem hX1_becomeOpen (ln : sw_A) (w : Nat) (σ : sw_S) (h : (gX1_becomeOpen ln w σ).1) : ∃ fuel, wX1_becomeOpen ln (sw_end (gX1_becomeOpen ln w σ)) fuel 0 (sw_ent 1 [.inr (some (1, w))]) [] σ :=
  ⟨20, ⟨rfl, rfl⟩⟩
set_option maxRecDepth 100000 in
theorem mX1_becomeOpen {l : Launch} {ad : sw_A} {V : Nat → Nat → Prop} {ln : sw_A} {ca : Nat → ClassId} {D : va_G} (hG : sw_wf ad V sw_rf ln) : sw_met l ad V sw_rf ln ca D yX1_becomeOpen cX1_becomeOpen 1 none { frames := 0, cells := 0, slots := 0, locals := 0 } 1 (fX1_becomeOpen ln) := by
  refine sw_meth hG (by decide) (by refine ⟨?_, ?_, ?_, ?_⟩ <;> intro h <;> first | rfl | exact ⟨_, rfl⟩ | exact absurd h (by decide)) (by decide) kX1_becomeOpen flX1_in cnX1_in ?_ (sw_fo_h (W := fun Q L σ => ∃ fuel, wX1_becomeOpen ln Q fuel 0 L [] σ) (fun a0 σ h => hX1_becomeOpen ln a0 σ h))
  intro p e s m args below meth c S hT hnw
  exact fun q h => absurd h List.not_mem_nil
def gX1_begin (ln : sw_A) (w : Nat) (σ : sw_S) : sw_X := (True, some (.inl (if σ 1 w 3 = 0 then 1 else 0)), if σ 1 w 3 = 0 then sw_up (fl_bo w σ) 1 w 7 1 else σ)
def fX1_begin (ln : sw_A) : sw_F := sw_fo 1 (gX1_begin ln)
def ctX1_begin (ln : sw_A) : sw_C := [(33, 1, 2, fX1_becomeOpen ln)]
abbrev wX1_begin (ln : sw_A) (Q : Option sw_V → sw_S → Prop) : Nat → Nat → sw_L → List sw_V → sw_S → Prop := sw_wp sw_rf ln (ctX1_begin ln) sX1_begin 2 19 tX1_begin Q
theorem hX1_begin (ln : sw_A) (w : Nat) (σ : sw_S) (h : (gX1_begin ln w σ).1) : ∃ fuel, wX1_begin ln (sw_end (gX1_begin ln w σ)) fuel 0 (sw_ent 1 [.inr (some (1, w))]) [] σ :=
  ⟨20, And.intro (fun (h1 : σ 1 w 3 = 0) => And.intro trivial (And.intro (Or.inr rfl) ⟨Or.inr rfl, sw_ri (if_pos h1).symm, (if_pos h1).symm⟩)) (fun (h1 : ¬ σ 1 w 3 = 0) => ⟨Or.inl rfl, sw_ri (if_neg h1).symm, (if_neg h1).symm⟩)⟩
set_option maxRecDepth 100000 in
theorem mX1_begin {l : Launch} {ad : sw_A} {V : Nat → Nat → Prop} {ln : sw_A} {ca : Nat → ClassId} {D : va_G} (hG : sw_wf ad V sw_rf ln) : sw_met l ad V sw_rf ln ca D yX1_begin cX1_begin 1 (some .boolean) { frames := 1, cells := 0, slots := 0, locals := 20 } 1 (fX1_begin ln) := by
  refine sw_meth hG (by decide) (by refine ⟨?_, ?_, ?_, ?_⟩ <;> intro h <;> first | rfl | exact ⟨_, rfl⟩ | exact absurd h (by decide)) (by decide) kX1_begin flX1_in cnX1_in ?_ (sw_fo_h (W := fun Q L σ => ∃ fuel, wX1_begin ln Q fuel 0 L [] σ) (fun a0 σ h => hX1_begin ln a0 σ h))
  intro p e s m args below meth c S hT hnw
  refine List.forall_mem_cons.mpr ⟨sw_cokV S hT hnw (mX1_becomeOpen hG) 33 1 (by decide) ⟨by decide +kernel, by decide +kernel, by decide +kernel, by decide +kernel, by decide +kernel⟩ ⟨rfl, by decide, by decide, by decide +kernel⟩ ⟨rfl, rfl⟩ ⟨by decide, by decide⟩, ?_⟩
  exact fun q h => absurd h List.not_mem_nil
def gX1_finish (ln : sw_A) (w : Nat) (σ : sw_S) : sw_X := (True, some (.inl (if σ 1 w 3 = 1 then 1 else 0)), if σ 1 w 3 = 1 then sw_up (sw_up σ 1 w 3 2) 1 w 8 1 else σ)
def fX1_finish (ln : sw_A) : sw_F := sw_fo 1 (gX1_finish ln)
def ctX1_finish (ln : sw_A) : sw_C := []
abbrev wX1_finish (ln : sw_A) (Q : Option sw_V → sw_S → Prop) : Nat → Nat → sw_L → List sw_V → sw_S → Prop := sw_wp sw_rf ln (ctX1_finish ln) sX1_finish 2 21 tX1_finish Q
theorem hX1_finish (ln : sw_A) (w : Nat) (σ : sw_S) (h : (gX1_finish ln w σ).1) : ∃ fuel, wX1_finish ln (sw_end (gX1_finish ln w σ)) fuel 0 (sw_ent 1 [.inr (some (1, w))]) [] σ :=
  ⟨20, And.intro (fun (h1 : σ 1 w 3 = 1) => And.intro (Or.inr rfl) ⟨Or.inr rfl, sw_ri (if_pos h1).symm, (if_pos h1).symm⟩) (fun (h1 : ¬ σ 1 w 3 = 1) => ⟨Or.inl rfl, sw_ri (if_neg h1).symm, (if_neg h1).symm⟩)⟩
set_option maxRecDepth 100000 in
theorem mX1_finish {l : Launch} {ad : sw_A} {V : Nat → Nat → Prop} {ln : sw_A} {ca : Nat → ClassId} {D : va_G} (hG : sw_wf ad V sw_rf ln) : sw_met l ad V sw_rf ln ca D yX1_finish cX1_finish 1 (some .boolean) { frames := 0, cells := 0, slots := 0, locals := 0 } 1 (fX1_finish ln) := by
  refine sw_meth hG (by decide) (by refine ⟨?_, ?_, ?_, ?_⟩ <;> intro h <;> first | rfl | exact ⟨_, rfl⟩ | exact absurd h (by decide)) (by decide) kX1_finish flX1_in cnX1_in ?_ (sw_fo_h (W := fun Q L σ => ∃ fuel, wX1_finish ln Q fuel 0 L [] σ) (fun a0 σ h => hX1_finish ln a0 σ h))
  intro p e s m args below meth c S hT hnw
  exact fun q h => absurd h List.not_mem_nil
def fl_hs (w : Nat) (σ : sw_S) : Int32 := if σ 1 w 7 = 0 then (if σ 5 (2 * w) 3 ≤ 0 then σ 1 w 8 else if σ 1 w 5 ≤ 0 then 0 else 1) else 1
def gX1_hasToSend (ln : sw_A) (w : Nat) (σ : sw_S) : sw_X := (sw_bo (σ 1 w 8), some (.inl (fl_hs w σ)), σ)
def fX1_hasToSend (ln : sw_A) : sw_F := sw_fo 1 (gX1_hasToSend ln)
def ctX1_hasToSend (ln : sw_A) : sw_C := [(46, 1, 6, fX5_size ln)]
abbrev wX1_hasToSend (ln : sw_A) (Q : Option sw_V → sw_S → Prop) : Nat → Nat → sw_L → List sw_V → sw_S → Prop := sw_wp sw_rf ln (ctX1_hasToSend ln) sX1_hasToSend 2 38 tX1_hasToSend Q
theorem hX1_hasToSend (ln : sw_A) (w : Nat) (σ : sw_S) (h : (gX1_hasToSend ln w σ).1) : ∃ fuel, wX1_hasToSend ln (sw_end (gX1_hasToSend ln w σ)) fuel 0 (sw_ent 1 [.inr (some (1, w))]) [] σ :=
  ⟨20, And.intro (fun (h1 : σ 1 w 7 = 0) => And.intro trivial (And.intro (fun (h2 : σ 5 (2 * w) 3 ≤ 0) => ⟨h, sw_ri ((if_pos h1).trans (if_pos h2)).symm, rfl⟩) (fun (h2 : ¬ σ 5 (2 * w) 3 ≤ 0) => And.intro (fun (h3 : σ 1 w 5 ≤ 0) => ⟨Or.inl rfl, sw_ri ((if_pos h1).trans ((if_neg h2).trans (if_pos h3))).symm, rfl⟩) (fun (h3 : ¬ σ 1 w 5 ≤ 0) => ⟨Or.inr rfl, sw_ri ((if_pos h1).trans ((if_neg h2).trans (if_neg h3))).symm, rfl⟩)))) (fun (h1 : ¬ σ 1 w 7 = 0) => ⟨Or.inr rfl, sw_ri (if_neg h1).symm, rfl⟩)⟩
set_option maxRecDepth 100000 in
theorem mX1_hasToSend {l : Launch} {ad : sw_A} {V : Nat → Nat → Prop} {ln : sw_A} {ca : Nat → ClassId} {D : va_G} (hG : sw_wf ad V sw_rf ln) : sw_met l ad V sw_rf ln ca D yX1_hasToSend cX1_hasToSend 1 (some .boolean) { frames := 1, cells := 0, slots := 0, locals := 20 } 1 (fX1_hasToSend ln) := by
  refine sw_meth hG (by decide) (by refine ⟨?_, ?_, ?_, ?_⟩ <;> intro h <;> first | rfl | exact ⟨_, rfl⟩ | exact absurd h (by decide)) (by decide) kX1_hasToSend flX1_in cnX1_in ?_ (sw_fo_h (W := fun Q L σ => ∃ fuel, wX1_hasToSend ln Q fuel 0 L [] σ) (fun a0 σ h => hX1_hasToSend ln a0 σ h))
  intro p e s m args below meth c S hT hnw
  refine List.forall_mem_cons.mpr ⟨sw_cokV S hT hnw (mX5_size hG) 46 5 (by decide) ⟨by decide +kernel, by decide +kernel, by decide +kernel, by decide +kernel, by decide +kernel⟩ ⟨rfl, by decide, by decide, by decide +kernel⟩ ⟨rfl, rfl⟩ ⟨by decide, by decide⟩, ?_⟩
  exact fun q h => absurd h List.not_mem_nil
def gX1_isShut (ln : sw_A) (w : Nat) (σ : sw_S) : sw_X := (sw_bo (σ 1 w 9), some (.inl (σ 1 w 9)), σ)
def fX1_isShut (ln : sw_A) : sw_F := sw_fo 1 (gX1_isShut ln)
def ctX1_isShut (ln : sw_A) : sw_C := []
abbrev wX1_isShut (ln : sw_A) (Q : Option sw_V → sw_S → Prop) : Nat → Nat → sw_L → List sw_V → sw_S → Prop := sw_wp sw_rf ln (ctX1_isShut ln) sX1_isShut 2 4 tX1_isShut Q
theorem hX1_isShut (ln : sw_A) (w : Nat) (σ : sw_S) (h : (gX1_isShut ln w σ).1) : ∃ fuel, wX1_isShut ln (sw_end (gX1_isShut ln w σ)) fuel 0 (sw_ent 1 [.inr (some (1, w))]) [] σ :=
  ⟨20, ⟨h, rfl, rfl⟩⟩
set_option maxRecDepth 100000 in
theorem mX1_isShut {l : Launch} {ad : sw_A} {V : Nat → Nat → Prop} {ln : sw_A} {ca : Nat → ClassId} {D : va_G} (hG : sw_wf ad V sw_rf ln) : sw_met l ad V sw_rf ln ca D yX1_isShut cX1_isShut 1 (some .boolean) { frames := 0, cells := 0, slots := 0, locals := 0 } 1 (fX1_isShut ln) := by
  refine sw_meth hG (by decide) (by refine ⟨?_, ?_, ?_, ?_⟩ <;> intro h <;> first | rfl | exact ⟨_, rfl⟩ | exact absurd h (by decide)) (by decide) kX1_isShut flX1_in cnX1_in ?_ (sw_fo_h (W := fun Q L σ => ∃ fuel, wX1_isShut ln Q fuel 0 L [] σ) (fun a0 σ h => hX1_isShut ln a0 σ h))
  intro p e s m args below meth c S hT hnw
  exact fun q h => absurd h List.not_mem_nil
def fl_d1 (ln : sw_A) (w : Nat) (σ : sw_S) : sw_S := if qu_om ln (2 * w + 1) σ = 0 then sw_up σ 1 w 11 (σ 1 w 11 + 1) else sw_up σ 1 w 12 (σ 1 w 12 + 1)
def fl_d2 (ln : sw_A) (w : Nat) (σ : sw_S) : sw_S := sw_up (qu_do ln (2 * w + 1) σ) 1 w 6 (qu_do ln (2 * w + 1) σ 1 w 6 + 1)
def gX1_dropTaken (ln : sw_A) (w : Nat) (σ : sw_S) : sw_X := (ce_ok ln ((2 * w + 1) / 16), none, fl_d2 ln w (fl_d1 ln w σ))
def fX1_dropTaken (ln : sw_A) : sw_F := sw_fo 1 (gX1_dropTaken ln)
def ctX1_dropTaken (ln : sw_A) : sw_C := [(53, 1, 6, fX5_oldestIsMark ln), (63, 1, 6, fX5_dropOldest ln)]
abbrev wX1_dropTaken (ln : sw_A) (Q : Option sw_V → sw_S → Prop) : Nat → Nat → sw_L → List sw_V → sw_S → Prop := sw_wp sw_rf ln (ctX1_dropTaken ln) sX1_dropTaken 0 50 tX1_dropTaken Q
theorem hX1_dropTaken (ln : sw_A) (w : Nat) (σ : sw_S) (h : (gX1_dropTaken ln w σ).1) : ∃ fuel, wX1_dropTaken ln (sw_end (gX1_dropTaken ln w σ)) fuel 0 (sw_ent 1 [.inr (some (1, w))]) [] σ := by
  refine ⟨40, And.intro h (And.intro (fun (h1 : qu_om ln (2 * w + 1) σ = 0) => And.intro h ⟨rfl, ?_⟩) (fun (h1 : ¬ qu_om ln (2 * w + 1) σ = 0) => And.intro h ⟨rfl, ?_⟩))⟩
  · show _ = fl_d2 ln w (fl_d1 ln w σ)
    unfold fl_d1
    rw [if_pos h1]
    rfl
  · show _ = fl_d2 ln w (fl_d1 ln w σ)
    unfold fl_d1
    rw [if_neg h1]
    rfl
set_option maxRecDepth 100000 in
theorem mX1_dropTaken {l : Launch} {ad : sw_A} {V : Nat → Nat → Prop} {ln : sw_A} {ca : Nat → ClassId} {D : va_G} (hG : sw_wf ad V sw_rf ln) : sw_met l ad V sw_rf ln ca D yX1_dropTaken cX1_dropTaken 1 none { frames := 3, cells := 0, slots := 0, locals := 63 } 1 (fX1_dropTaken ln) := by
  refine sw_meth hG (by decide) (by refine ⟨?_, ?_, ?_, ?_⟩ <;> intro h <;> first | rfl | exact ⟨_, rfl⟩ | exact absurd h (by decide)) (by decide) kX1_dropTaken flX1_in cnX1_in ?_ (sw_fo_h (W := fun Q L σ => ∃ fuel, wX1_dropTaken ln Q fuel 0 L [] σ) (fun a0 σ h => hX1_dropTaken ln a0 σ h))
  intro p e s m args below meth c S hT hnw
  refine List.forall_mem_cons.mpr ⟨sw_cokV S hT hnw (mX5_oldestIsMark hG) 53 5 (by decide) ⟨by decide +kernel, by decide +kernel, by decide +kernel, by decide +kernel, by decide +kernel⟩ ⟨rfl, by decide, by decide, by decide +kernel⟩ ⟨rfl, rfl⟩ ⟨by decide, by decide⟩, ?_⟩
  refine List.forall_mem_cons.mpr ⟨sw_cokV S hT hnw (mX5_dropOldest hG) 63 5 (by decide) ⟨by decide +kernel, by decide +kernel, by decide +kernel, by decide +kernel, by decide +kernel⟩ ⟨rfl, by decide, by decide, by decide +kernel⟩ ⟨rfl, rfl⟩ ⟨by decide, by decide⟩, ?_⟩
  exact fun q h => absurd h List.not_mem_nil
def fl_cb (w : Nat) (σ : sw_S) : Int32 := if σ 1 w 3 = 0 then 0 else if σ 1 w 9 = 0 then 1 else 0
theorem fl_cb_bo (w : Nat) (σ : sw_S) : sw_bo (fl_cb w σ) := by
  unfold fl_cb
  split
  · exact Or.inl rfl
  · split
    · exact Or.inr rfl
    · exact Or.inl rfl
def gX1_canBeFilled (ln : sw_A) (w : Nat) (σ : sw_S) : sw_X := (True, some (.inl (fl_cb w σ)), σ)
def fX1_canBeFilled (ln : sw_A) : sw_F := sw_fo 1 (gX1_canBeFilled ln)
def ctX1_canBeFilled (ln : sw_A) : sw_C := []
abbrev wX1_canBeFilled (ln : sw_A) (Q : Option sw_V → sw_S → Prop) : Nat → Nat → sw_L → List sw_V → sw_S → Prop := sw_wp sw_rf ln (ctX1_canBeFilled ln) sX1_canBeFilled 2 19 tX1_canBeFilled Q
theorem hX1_canBeFilled (ln : sw_A) (w : Nat) (σ : sw_S) (h : (gX1_canBeFilled ln w σ).1) : ∃ fuel, wX1_canBeFilled ln (sw_end (gX1_canBeFilled ln w σ)) fuel 0 (sw_ent 1 [.inr (some (1, w))]) [] σ :=
  ⟨20, And.intro (fun (h1 : σ 1 w 3 = 0) => ⟨Or.inl rfl, sw_ri (if_pos h1).symm, rfl⟩) (fun (h1 : ¬ σ 1 w 3 = 0) => And.intro (fun (h2 : ¬ σ 1 w 9 = 0) => ⟨Or.inl rfl, sw_ri ((if_neg h1).trans (if_neg h2)).symm, rfl⟩) (fun (h2 : σ 1 w 9 = 0) => ⟨Or.inr rfl, sw_ri ((if_neg h1).trans (if_pos h2)).symm, rfl⟩))⟩
set_option maxRecDepth 100000 in
theorem mX1_canBeFilled {l : Launch} {ad : sw_A} {V : Nat → Nat → Prop} {ln : sw_A} {ca : Nat → ClassId} {D : va_G} (hG : sw_wf ad V sw_rf ln) : sw_met l ad V sw_rf ln ca D yX1_canBeFilled cX1_canBeFilled 1 (some .boolean) { frames := 0, cells := 0, slots := 0, locals := 0 } 1 (fX1_canBeFilled ln) := by
  refine sw_meth hG (by decide) (by refine ⟨?_, ?_, ?_, ?_⟩ <;> intro h <;> first | rfl | exact ⟨_, rfl⟩ | exact absurd h (by decide)) (by decide) kX1_canBeFilled flX1_in cnX1_in ?_ (sw_fo_h (W := fun Q L σ => ∃ fuel, wX1_canBeFilled ln Q fuel 0 L [] σ) (fun a0 σ h => hX1_canBeFilled ln a0 σ h))
  intro p e s m args below meth c S hT hnw
  exact fun q h => absurd h List.not_mem_nil
def fl_ct (w f : Nat) (σ : sw_S) : Int32 :=
  if fr_kd σ f = 1 then (if fl_cb w σ = 0 then 0 else if σ 1 w 2 - σ 5 (2 * w + 1) 3 - σ 1 w 6 < fr_ct σ f then 0 else 1)
  else if fr_kd σ f = 2 then (if σ 1 w 3 = 0 then 0 else if σ 1 w 2 - σ 1 w 5 < fr_at σ f 1 then 0 else 1)
  else if fr_kd σ f = 3 then (if σ 1 w 10 = 0 then 1 else 0)
  else if fr_kd σ f = 4 then fl_cb w σ
  else 0
def gX1_canTake (ln : sw_A) (w f : Nat) (σ : sw_S) : sw_X := (fr_ok ln f σ, some (.inl (fl_ct w f σ)), σ)
def fX1_canTake (ln : sw_A) : sw_F := sw_foo 1 2 (gX1_canTake ln)
def ctX1_canTake (ln : sw_A) : sw_C := [(69, 1, 3, fX2_kind ln), (74, 1, 2, fX1_canBeFilled ln), (77, 1, 3, fX2_count ln), (46, 1, 6, fX5_size ln), (80, 1, 3, fX2_granted ln)]
abbrev wX1_canTake (ln : sw_A) (Q : Option sw_V → sw_S → Prop) : Nat → Nat → sw_L → List sw_V → sw_S → Prop := sw_wp sw_rf ln (ctX1_canTake ln) sX1_canTake 2 121 tX1_canTake Q
theorem hX1_canTake (ln : sw_A) (w f : Nat) (σ : sw_S) (h : (gX1_canTake ln w f σ).1) : ∃ fuel, wX1_canTake ln (sw_end (gX1_canTake ln w f σ)) fuel 0 (sw_ent 2 [.inr (some (1, w)), .inr (some (2, f))]) [] σ := by
  refine ⟨40, And.intro h (And.intro (fun (h1 : fr_kd σ f = 1) => ?_) (fun (n1 : ¬ fr_kd σ f = 1) => And.intro (fun (h2 : fr_kd σ f = 2) => ?_) (fun (n2 : ¬ fr_kd σ f = 2) => And.intro (fun (h3 : fr_kd σ f = 3) => ?_) (fun (n3 : ¬ fr_kd σ f = 3) => And.intro (fun (h4 : fr_kd σ f = 4) => ?_) (fun (n4 : ¬ fr_kd σ f = 4) => ?_)))))⟩
  · refine And.intro trivial (And.intro (fun (a1 : fl_cb w σ = 0) => ⟨Or.inl rfl, sw_ri ?_, rfl⟩) (fun (a1 : ¬ fl_cb w σ = 0) => And.intro h (And.intro trivial (And.intro (fun (a2 : σ 1 w 2 - σ 5 (2 * w + 1) 3 - σ 1 w 6 < fr_ct σ f) => ⟨Or.inl rfl, sw_ri ?_, rfl⟩) (fun (a2 : ¬ σ 1 w 2 - σ 5 (2 * w + 1) 3 - σ 1 w 6 < fr_ct σ f) => ⟨Or.inr rfl, sw_ri ?_, rfl⟩)))))
    · unfold fl_ct; rw [if_pos h1, if_pos a1]
    · unfold fl_ct; rw [if_pos h1, if_neg a1, if_pos a2]
    · unfold fl_ct; rw [if_pos h1, if_neg a1, if_neg a2]
  · refine And.intro (fun (a1 : σ 1 w 3 = 0) => ⟨Or.inl rfl, sw_ri ?_, rfl⟩) (fun (a1 : ¬ σ 1 w 3 = 0) => And.intro h (And.intro (fun (a2 : σ 1 w 2 - σ 1 w 5 < fr_at σ f 1) => ⟨Or.inl rfl, sw_ri ?_, rfl⟩) (fun (a2 : ¬ σ 1 w 2 - σ 1 w 5 < fr_at σ f 1) => ⟨Or.inr rfl, sw_ri ?_, rfl⟩)))
    · unfold fl_ct; rw [if_neg n1, if_pos h2, if_pos a1]
    · unfold fl_ct; rw [if_neg n1, if_pos h2, if_neg a1, if_pos a2]
    · unfold fl_ct; rw [if_neg n1, if_pos h2, if_neg a1, if_neg a2]
  · refine And.intro (fun (a1 : ¬ σ 1 w 10 = 0) => ⟨Or.inl rfl, sw_ri ?_, rfl⟩) (fun (a1 : σ 1 w 10 = 0) => ⟨Or.inr rfl, sw_ri ?_, rfl⟩)
    · unfold fl_ct; rw [if_neg n1, if_neg n2, if_pos h3, if_neg a1]
    · unfold fl_ct; rw [if_neg n1, if_neg n2, if_pos h3, if_pos a1]
  · refine And.intro trivial ⟨fl_cb_bo w σ, sw_ri ?_, rfl⟩
    unfold fl_ct; rw [if_neg n1, if_neg n2, if_neg n3, if_pos h4]; rfl
  · refine ⟨Or.inl rfl, sw_ri ?_, rfl⟩
    unfold fl_ct; rw [if_neg n1, if_neg n2, if_neg n3, if_neg n4]
set_option maxRecDepth 100000 in
theorem mX1_canTake {l : Launch} {ad : sw_A} {V : Nat → Nat → Prop} {ln : sw_A} {ca : Nat → ClassId} {D : va_G} (hG : sw_wf ad V sw_rf ln) : sw_met l ad V sw_rf ln ca D yX1_canTake cX1_canTake 2 (some .boolean) { frames := 2, cells := 0, slots := 0, locals := 41 } 2 (fX1_canTake ln) := by
  refine sw_meth hG (by decide) (by refine ⟨?_, ?_, ?_, ?_⟩ <;> intro h <;> first | rfl | exact ⟨_, rfl⟩ | exact absurd h (by decide)) (by decide) kX1_canTake flX1_in cnX1_in ?_ (sw_foo_h (W := fun Q L σ => ∃ fuel, wX1_canTake ln Q fuel 0 L [] σ) (fun a0 a1 σ h => hX1_canTake ln a0 a1 σ h))
  intro p e s m args below meth c S hT hnw
  refine List.forall_mem_cons.mpr ⟨sw_cokV S hT hnw (mX2_kind hG) 69 2 (by decide) ⟨by decide +kernel, by decide +kernel, by decide +kernel, by decide +kernel, by decide +kernel⟩ ⟨rfl, by decide, by decide, by decide +kernel⟩ ⟨rfl, rfl⟩ ⟨by decide, by decide⟩, ?_⟩
  refine List.forall_mem_cons.mpr ⟨sw_cokV S hT hnw (mX1_canBeFilled hG) 74 1 (by decide) ⟨by decide +kernel, by decide +kernel, by decide +kernel, by decide +kernel, by decide +kernel⟩ ⟨rfl, by decide, by decide, by decide +kernel⟩ ⟨rfl, rfl⟩ ⟨by decide, by decide⟩, ?_⟩
  refine List.forall_mem_cons.mpr ⟨sw_cokV S hT hnw (mX2_count hG) 77 2 (by decide) ⟨by decide +kernel, by decide +kernel, by decide +kernel, by decide +kernel, by decide +kernel⟩ ⟨rfl, by decide, by decide, by decide +kernel⟩ ⟨rfl, rfl⟩ ⟨by decide, by decide⟩, ?_⟩
  refine List.forall_mem_cons.mpr ⟨sw_cokV S hT hnw (mX5_size hG) 46 5 (by decide) ⟨by decide +kernel, by decide +kernel, by decide +kernel, by decide +kernel, by decide +kernel⟩ ⟨rfl, by decide, by decide, by decide +kernel⟩ ⟨rfl, rfl⟩ ⟨by decide, by decide⟩, ?_⟩
  refine List.forall_mem_cons.mpr ⟨sw_cokV S hT hnw (mX2_granted hG) 80 2 (by decide) ⟨by decide +kernel, by decide +kernel, by decide +kernel, by decide +kernel, by decide +kernel⟩ ⟨rfl, by decide, by decide, by decide +kernel⟩ ⟨rfl, rfl⟩ ⟨by decide, by decide⟩, ?_⟩
  exact fun q h => absurd h List.not_mem_nil
theorem gX0_fill_k (ln : sw_A) (k : Nat) (w b : Int32) (σ : sw_S) {c : Nat} (h0 : ¬ c = 0) (h9 : ¬ c = 9) (h10 : ¬ c = 10) (h11 : ¬ c = 11) (k' j' : Nat) : (gX0_fill ln k w b σ).2.2 c k' j' = σ c k' j' := by
  show (if ce_ho ln k (σ 0 k 3) = 0 then σ else ce_fi k (σ 0 k 3) w b σ) c k' j' = σ c k' j'
  split
  · rfl
  · unfold ce_fi
    rw [sw_upk _ h11, sw_upk _ h10, sw_upk _ h9, sw_upk _ h0]
theorem qu_pu_k (ln : sw_A) (q : Nat) (w b : Int32) (σ : sw_S) {c : Nat} (h0 : ¬ c = 0) (h5 : ¬ c = 5) (h9 : ¬ c = 9) (h10 : ¬ c = 10) (h11 : ¬ c = 11) (k' j' : Nat) : qu_pu ln q w b σ c k' j' = σ c k' j' := by
  unfold qu_pu
  split
  · exact gX0_fill_k ln _ w b σ h0 h9 h10 h11 k' j'
  · unfold qu_pc
    rw [sw_upk _ h5, sw_upk _ h5]
    unfold qu_pb
    split
    · rw [sw_upk _ h5]
      exact gX0_fill_k ln _ w b σ h0 h9 h10 h11 k' j'
    · show (if ce_ho ln (q / 16) _ = 0 then _ else sw_up _ 11 _ _ _) c k' j' = _
      split
      · exact gX0_fill_k ln _ w b σ h0 h9 h10 h11 k' j'
      · rw [sw_upk _ h11]
        exact gX0_fill_k ln _ w b σ h0 h9 h10 h11 k' j'
theorem fr_at_eq {s σ : sw_S} {f : Nat} (h2 : ∀ j, s 2 f j = σ 2 f j) (h12 : ∀ j, s 12 f j = σ 12 f j) : fr_at s f = fr_at σ f := by
  funext i
  unfold fr_at
  rw [h2, h12]
theorem fr_mk_bo (σ : sw_S) (k : Nat) (i : Int32) : sw_bo (fr_mk σ k i) := by
  unfold fr_mk
  split
  · exact Or.inr rfl
  · exact Or.inl rfl
def fl_ld (ln : sw_A) (w f : Nat) : Nat → sw_S → sw_S
  | 0, σ => σ
  | n + 1, σ => qu_pu ln (2 * w + 1) (fr_at (fl_ld ln w f n σ) f (2 + nI n)) (fr_mk (fl_ld ln w f n σ) f (nI n)) (fl_ld ln w f n σ)
theorem fl_ld_k (ln : sw_A) (w f : Nat) {c : Nat} (h0 : ¬ c = 0) (h5 : ¬ c = 5) (h9 : ¬ c = 9) (h10 : ¬ c = 10) (h11 : ¬ c = 11) (k' j' : Nat) : ∀ (n : Nat) (σ : sw_S), fl_ld ln w f n σ c k' j' = σ c k' j'
  | 0, _ => rfl
  | n + 1, σ => (qu_pu_k ln _ _ _ _ h0 h5 h9 h10 h11 k' j').trans (fl_ld_k ln w f h0 h5 h9 h10 h11 k' j' n σ)
theorem fl_ld_fr (ln : sw_A) (w f n : Nat) (σ : sw_S) (f' : Nat) : fr_at (fl_ld ln w f n σ) f' = fr_at σ f' :=
  fr_at_eq (fun j => fl_ld_k ln w f (by decide) (by decide) (by decide) (by decide) (by decide) f' j n σ) (fun j => fl_ld_k ln w f (by decide) (by decide) (by decide) (by decide) (by decide) f' j n σ)
def gX1_layDown (ln : sw_A) (w f : Nat) (σ : sw_S) : sw_X := (fr_ok ln f σ ∧ ce_ok ln ((2 * w + 1) / 16), none, fl_ld ln w f (fr_ct σ f).toNatClampNeg σ)
def fX1_layDown (ln : sw_A) : sw_F := sw_foo 1 2 (gX1_layDown ln)
def ctX1_layDown (ln : sw_A) : sw_C := [(77, 1, 3, fX2_count ln), (90, 2, 3, fX2_itemWord ln), (94, 2, 3, fX2_isMark ln), (98, 3, 6, fX5_put ln)]
abbrev wX1_layDown (ln : sw_A) (Q : Option sw_V → sw_S → Prop) : Nat → Nat → sw_L → List sw_V → sw_S → Prop := sw_wp sw_rf ln (ctX1_layDown ln) sX1_layDown 0 33 tX1_layDown Q
theorem hX1_layDown_l (ln : sw_A) (w f n : Nat) (σ : sw_S) (X : sw_X) (hn : n < 2 ^ 31) (hc : fr_ct σ f = nI n) (hf0 : fr_ok ln f σ) (hce : ce_ok ln ((2 * w + 1) / 16)) (hX : X.2 = (none, fl_ld ln w f n σ)) : ∀ (d j : Nat), j + d = n → ∃ fuel, wX1_layDown ln (sw_end X) fuel 2 [some (.inr (some (1, w))), some (.inr (some (2, f))), some (.inl (nI j))] [] (fl_ld ln w f j σ) := by
  intro d
  induction d with
  | zero =>
    intro j hj
    have hj : j = n := by omega
    subst hj
    have hk : fr_ok ln f (fl_ld ln w f j σ) := by
      unfold fr_ok
      rw [fl_ld_k ln w f (by decide) (by decide) (by decide) (by decide) (by decide)]
      exact hf0
    have hcs : fr_ct (fl_ld ln w f j σ) f = nI j := by
      show sw_ushr (fr_at (fl_ld ln w f j σ) f 0) 24 = _
      rw [fl_ld_fr]
      exact hc
    refine ⟨20, And.intro hk (And.intro (fun _ => ?_) (fun (h : ¬ fr_ct (fl_ld ln w f j σ) f ≤ nI j) => absurd (by rw [hcs]; exact Int32.le_refl _) h))⟩
    show none = X.2.1 ∧ fl_ld ln w f j σ = X.2.2
    rw [hX]
    exact ⟨rfl, rfl⟩
  | succ d ih =>
    intro j hj
    have hk : fr_ok ln f (fl_ld ln w f j σ) := by
      unfold fr_ok
      rw [fl_ld_k ln w f (by decide) (by decide) (by decide) (by decide) (by decide)]
      exact hf0
    have hcs : fr_ct (fl_ld ln w f j σ) f = nI n := by
      show sw_ushr (fr_at (fl_ld ln w f j σ) f 0) 24 = _
      rw [fl_ld_fr]
      exact hc
    obtain ⟨g, hg⟩ := ih (j + 1) (by omega)
    rw [← nI_1] at hg
    refine ⟨g + 30, sw_ws_wp [2] g 30 _ _ _ _ ?_⟩
    refine And.intro hk (And.intro (fun (h : fr_ct (fl_ld ln w f j σ) f ≤ nI j) => absurd (by rw [← hcs]; exact h) (nI_ge (a := j) (b := n) (by omega) hn)) (fun _ => And.intro hk (And.intro hk (And.intro ⟨hce, fr_mk_bo _ _ _⟩ ?_))))
    exact hg
theorem hX1_layDown (ln : sw_A) (w f : Nat) (σ : sw_S) (h : (gX1_layDown ln w f σ).1) : ∃ fuel, wX1_layDown ln (sw_end (gX1_layDown ln w f σ)) fuel 0 (sw_ent 3 [.inr (some (1, w)), .inr (some (2, f))]) [] σ := by
  obtain ⟨n, hn, hc⟩ := sw_ushr24 (fr_at σ f 0)
  have hn2 : n < 2 ^ 31 := by omega
  obtain ⟨g, hg⟩ := hX1_layDown_l ln w f n σ (gX1_layDown ln w f σ) hn2 hc h.1 h.2 (by
    show (none, fl_ld ln w f (sw_ushr (fr_at σ f 0) 24).toNatClampNeg σ) = _
    rw [hc, nI_clamp hn2]) n 0 (by omega)
  exact ⟨g + 10, sw_ws_wp [2] g 10 _ _ _ _ hg⟩
set_option maxRecDepth 100000 in
theorem mX1_layDown {l : Launch} {ad : sw_A} {V : Nat → Nat → Prop} {ln : sw_A} {ca : Nat → ClassId} {D : va_G} (hG : sw_wf ad V sw_rf ln) : sw_met l ad V sw_rf ln ca D yX1_layDown cX1_layDown 3 none { frames := 3, cells := 0, slots := 0, locals := 67 } 2 (fX1_layDown ln) := by
  refine sw_meth hG (by decide) (by refine ⟨?_, ?_, ?_, ?_⟩ <;> intro h <;> first | rfl | exact ⟨_, rfl⟩ | exact absurd h (by decide)) (by decide) kX1_layDown flX1_in cnX1_in ?_ (sw_foo_h (W := fun Q L σ => ∃ fuel, wX1_layDown ln Q fuel 0 L [] σ) (fun a0 a1 σ h => hX1_layDown ln a0 a1 σ h))
  intro p e s m args below meth c S hT hnw
  refine List.forall_mem_cons.mpr ⟨sw_cokV S hT hnw (mX2_count hG) 77 2 (by decide) ⟨by decide +kernel, by decide +kernel, by decide +kernel, by decide +kernel, by decide +kernel⟩ ⟨rfl, by decide, by decide, by decide +kernel⟩ ⟨rfl, rfl⟩ ⟨by decide, by decide⟩, ?_⟩
  refine List.forall_mem_cons.mpr ⟨sw_cokV S hT hnw (mX2_itemWord hG) 90 2 (by decide) ⟨by decide +kernel, by decide +kernel, by decide +kernel, by decide +kernel, by decide +kernel⟩ ⟨rfl, by decide, by decide, by decide +kernel⟩ ⟨rfl, rfl⟩ ⟨by decide, by decide⟩, ?_⟩
  refine List.forall_mem_cons.mpr ⟨sw_cokV S hT hnw (mX2_isMark hG) 94 2 (by decide) ⟨by decide +kernel, by decide +kernel, by decide +kernel, by decide +kernel, by decide +kernel⟩ ⟨rfl, by decide, by decide, by decide +kernel⟩ ⟨rfl, rfl⟩ ⟨by decide, by decide⟩, ?_⟩
  refine List.forall_mem_cons.mpr ⟨sw_cokV S hT hnw (mX5_put hG) 98 5 (by decide) ⟨by decide +kernel, by decide +kernel, by decide +kernel, by decide +kernel, by decide +kernel⟩ ⟨rfl, by decide, by decide, by decide +kernel⟩ ⟨rfl, rfl⟩ ⟨by decide, by decide⟩, ?_⟩
  exact fun q h => absurd h List.not_mem_nil
def fl_tk (ln : sw_A) (w f : Nat) (σ : sw_S) : sw_S :=
  if fr_kd σ f = 1 then fl_ld ln w f (fr_ct σ f).toNatClampNeg σ
  else if fr_kd σ f = 2 then sw_up σ 1 w 5 (σ 1 w 5 + fr_at σ f 1)
  else if fr_kd σ f = 3 then (if sw_up σ 1 w 10 1 1 w 3 = 0 then fl_bo w (sw_up σ 1 w 10 1) else sw_up σ 1 w 10 1)
  else if fr_kd σ f = 4 then sw_up σ 1 w 9 1
  else σ
def gX1_take (ln : sw_A) (w f : Nat) (σ : sw_S) : sw_X := (fr_ok ln f σ ∧ ce_ok ln ((2 * w + 1) / 16), none, fl_tk ln w f σ)
def fX1_take (ln : sw_A) : sw_F := sw_foo 1 2 (gX1_take ln)
def ctX1_take (ln : sw_A) : sw_C := [(69, 1, 3, fX2_kind ln), (86, 2, 2, fX1_layDown ln), (80, 1, 3, fX2_granted ln), (33, 1, 2, fX1_becomeOpen ln)]
abbrev wX1_take (ln : sw_A) (Q : Option sw_V → sw_S → Prop) : Nat → Nat → sw_L → List sw_V → sw_S → Prop := sw_wp sw_rf ln (ctX1_take ln) sX1_take 0 87 tX1_take Q
theorem hX1_take (ln : sw_A) (w f : Nat) (σ : sw_S) (h : (gX1_take ln w f σ).1) : ∃ fuel, wX1_take ln (sw_end (gX1_take ln w f σ)) fuel 0 (sw_ent 2 [.inr (some (1, w)), .inr (some (2, f))]) [] σ := by
  refine ⟨40, And.intro h.1 (And.intro (fun (h1 : fr_kd σ f = 1) => And.intro h ⟨rfl, ?_⟩) (fun (n1 : ¬ fr_kd σ f = 1) => And.intro (fun (h2 : fr_kd σ f = 2) => And.intro h.1 ⟨rfl, ?_⟩) (fun (n2 : ¬ fr_kd σ f = 2) => And.intro (fun (h3 : fr_kd σ f = 3) => And.intro (Or.inr rfl) (And.intro (fun (a1 : ¬ sw_up σ 1 w 10 1 1 w 3 = 0) => ⟨rfl, ?_⟩) (fun (a1 : sw_up σ 1 w 10 1 1 w 3 = 0) => And.intro trivial ⟨rfl, ?_⟩))) (fun (n3 : ¬ fr_kd σ f = 3) => And.intro (fun (h4 : fr_kd σ f = 4) => And.intro (Or.inr rfl) ⟨rfl, ?_⟩) (fun (n4 : ¬ fr_kd σ f = 4) => ⟨rfl, ?_⟩)))))⟩
  · show _ = fl_tk ln w f σ
    unfold fl_tk; rw [if_pos h1]; rfl
  · show _ = fl_tk ln w f σ
    unfold fl_tk; rw [if_neg n1, if_pos h2]; rfl
  · show _ = fl_tk ln w f σ
    unfold fl_tk; rw [if_neg n1, if_neg n2, if_pos h3, if_neg a1]; rfl
  · show _ = fl_tk ln w f σ
    unfold fl_tk; rw [if_neg n1, if_neg n2, if_pos h3, if_pos a1]; rfl
  · show _ = fl_tk ln w f σ
    unfold fl_tk; rw [if_neg n1, if_neg n2, if_neg n3, if_pos h4]; rfl
  · show _ = fl_tk ln w f σ
    unfold fl_tk; rw [if_neg n1, if_neg n2, if_neg n3, if_neg n4]; rfl
set_option maxRecDepth 100000 in
theorem mX1_take {l : Launch} {ad : sw_A} {V : Nat → Nat → Prop} {ln : sw_A} {ca : Nat → ClassId} {D : va_G} (hG : sw_wf ad V sw_rf ln) : sw_met l ad V sw_rf ln ca D yX1_take cX1_take 2 none { frames := 4, cells := 0, slots := 0, locals := 89 } 2 (fX1_take ln) := by
  refine sw_meth hG (by decide) (by refine ⟨?_, ?_, ?_, ?_⟩ <;> intro h <;> first | rfl | exact ⟨_, rfl⟩ | exact absurd h (by decide)) (by decide) kX1_take flX1_in cnX1_in ?_ (sw_foo_h (W := fun Q L σ => ∃ fuel, wX1_take ln Q fuel 0 L [] σ) (fun a0 a1 σ h => hX1_take ln a0 a1 σ h))
  intro p e s m args below meth c S hT hnw
  refine List.forall_mem_cons.mpr ⟨sw_cokV S hT hnw (mX2_kind hG) 69 2 (by decide) ⟨by decide +kernel, by decide +kernel, by decide +kernel, by decide +kernel, by decide +kernel⟩ ⟨rfl, by decide, by decide, by decide +kernel⟩ ⟨rfl, rfl⟩ ⟨by decide, by decide⟩, ?_⟩
  refine List.forall_mem_cons.mpr ⟨sw_cokV S hT hnw (mX1_layDown hG) 86 1 (by decide) ⟨by decide +kernel, by decide +kernel, by decide +kernel, by decide +kernel, by decide +kernel⟩ ⟨rfl, by decide, by decide, by decide +kernel⟩ ⟨rfl, rfl⟩ ⟨by decide, by decide⟩, ?_⟩
  refine List.forall_mem_cons.mpr ⟨sw_cokV S hT hnw (mX2_granted hG) 80 2 (by decide) ⟨by decide +kernel, by decide +kernel, by decide +kernel, by decide +kernel, by decide +kernel⟩ ⟨rfl, by decide, by decide, by decide +kernel⟩ ⟨rfl, rfl⟩ ⟨by decide, by decide⟩, ?_⟩
  refine List.forall_mem_cons.mpr ⟨sw_cokV S hT hnw (mX1_becomeOpen hG) 33 1 (by decide) ⟨by decide +kernel, by decide +kernel, by decide +kernel, by decide +kernel, by decide +kernel⟩ ⟨rfl, by decide, by decide, by decide +kernel⟩ ⟨rfl, rfl⟩ ⟨by decide, by decide⟩, ?_⟩
  exact fun q h => absurd h List.not_mem_nil
