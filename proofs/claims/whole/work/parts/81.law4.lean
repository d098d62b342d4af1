/-! The law's loop: both objects side by side -/
theorem sbn_le (P : az_P) (s : Nat) : sbn P s ≤ wb2 P 1 + 1 := by
  have := wb2_e P
  unfold sbn
  split <;> omega
theorem wb3_e (P : az_P) : wb3 P 1 = wb2 P 1 + 1 + 11 + 3 * P 0 + 2 * P 2 + 2 * P 4 := by
  unfold wb3 pb3 pb2 pb1
  omega
theorem ixf_lt {P : az_P} {k : Nat} (h : vxf P k) : ixf P k + 1 < wb3 P 1 := by
  have hw := wb3_e P
  unfold ixf
  rcases h with ⟨h1, h2⟩ | ⟨h1, h2⟩
  · rw [if_pos h1, rbn_e]
    have hs := sbn_le P (k / 32 / 2)
    unfold rl at h2
    by_cases h3 : k / 32 % 2 = 0
    · rw [if_pos h3] at h2 ⊢
      omega
    · rw [if_neg h3] at h2 ⊢
      omega
  · rw [if_neg (by omega)]
    have hs := sbn_le P (k - 128)
    unfold pb3 pb2 pb1
    omega
theorem rbn_lt (P : az_P) (r : Nat) : rbn P r + 1 < wb3 P 1 := by
  have hw := wb3_e P
  have hs := sbn_le P (r / 2)
  rw [rbn_e]
  split <;> omega
theorem ix1_lt {P : az_P} {c k : Nat} (h : vx1 P c k) : ix1 P c k < wb3 P 1 := by
  have hw := wb3_e P
  unfold vx1 at h
  split at h
  · have hs := sbn_le P k
    show sbn P k < _
    omega
  · have hs := sbn_le P k
    show sbn P k + 1 < _
    omega
  · have hs := sbn_le P k
    show sbn P k + 2 < _
    omega
  · have hs := sbn_le P k
    show sbn P k + 3 < _
    omega
  · have hs := sbn_le P k
    show sbn P k + 4 < _
    omega
  · have hs := sbn_le P (k / 8)
    show sbn P (k / 8) + 5 + 3 * (k % 8) < _
    omega
  · have hs := sbn_le P (k / 16)
    show sbn P (k / 16) + 5 + 3 * (k / 2 % 8) + 1 + k % 2 < _
    omega
  · have := rbn_lt P k
    show rbn P k < _
    omega
  · exact rbn_lt P k
  · have := ixf_lt h
    show ixf P k < _
    omega
  · exact ixf_lt h
  · show 1 < _
    omega
  · have hs := sbn_le P k
    show sbn P k - 1 < _
    omega
  · show 0 < _
    omega
  · exact h.elim
abbrev lw_T : Type := az × az
def adB (sb b0 : Nat) (P : az_P) : sw_A := fun c _ => match c with
  | 7 => ad1 b0 P 7 0
  | 8 => ad2 b0 (wb3 P 1) 8 0
  | _ => sb
def lw_W (b0 : Nat) (P : az_P) (ca : Nat → ClassId) (D : va_G) (τ : lw_T) (H : Heap) : Prop :=
  (∃ σ, sw_w (ad1 b0 P) (vx1 P) sw_rf (lz P) ca D σ H ∧ crx P σ τ.1) ∧ ai P τ.1 ∧ (∃ σ, sw_w (ad2 b0 (wb3 P 1)) vx2 sw_rf (lz P) ca D σ H ∧ mr P σ τ.2) ∧ ai P τ.2 ∧ ∃ σ, crx P σ τ.2
abbrev lw_O : Type := List sw_V → az → Prop × (Int32 × az)
def o1 (o : Int32 → az → Int32 × az) : lw_O := fun tl A => match tl with
  | [.inl i] => (True, o i A)
  | _ => (False, 0, A)
def o2 (o : Int32 → Int32 → az → Int32 × az) : lw_O := fun tl A => match tl with
  | [.inl i, .inl j] => (True, o i j A)
  | _ => (False, 0, A)
def o3 (o : Int32 → Int32 → Int32 → az → Int32 × az) : lw_O := fun tl A => match tl with
  | [.inl i, .inl j, .inl k] => (True, o i j k A)
  | _ => (False, 0, A)
def lx (g : lw_O) : gs_F lw_T := fun avs τ => match avs with
  | .inr (some q) :: tl => (q = (7, 0) ∧ (g tl τ.1).1, some (.inl (g tl τ.1).2.1), ((g tl τ.1).2.2, τ.2))
  | _ => (False, none, τ)
def lm (g : lw_O) : gs_F lw_T := fun avs τ => match avs with
  | .inr (some q) :: tl => (q = (8, 0) ∧ (g tl τ.2).1, some (.inl (g tl τ.2).2.1), (τ.1, (g tl τ.2).2.2))
  | _ => (False, none, τ)
def lw_i (tl : List sw_V) : Prop := ∀ v ∈ tl, ∃ i : Int32, v = .inl i
def lx_sp (P : az_P) (f : sw_F) (g : lw_O) : Prop := ∀ (tl : List sw_V) (σ : sw_S) (A : az), (g tl A).1 → ai P A → crx P σ A → lw_i tl ∧ (f (.inr (some (7, 0)) :: tl) σ).1 ∧ (f (.inr (some (7, 0)) :: tl) σ).2.1 = some (.inl (g tl A).2.1) ∧ crx P (f (.inr (some (7, 0)) :: tl) σ).2.2 (g tl A).2.2 ∧ ai P (g tl A).2.2
def lm_sp (P : az_P) (f : sw_F) (g : lw_O) : Prop := ∀ (tl : List sw_V) (σ : sw_S) (A : az), (g tl A).1 → ai P A → (∃ σ1, crx P σ1 A) → mr P σ A → lw_i tl ∧ (f (.inr (some (8, 0)) :: tl) σ).1 ∧ (f (.inr (some (8, 0)) :: tl) σ).2.1 = some (.inl (g tl A).2.1) ∧ mr P (f (.inr (some (8, 0)) :: tl) σ).2.2 (g tl A).2.2 ∧ ai P (g tl A).2.2 ∧ ∃ σ1, crx P σ1 (g tl A).2.2
theorem o1_of {o : Int32 → az → Int32 × az} {tl : List sw_V} {A : az} (h : (o1 o tl A).1) : ∃ i, tl = [.inl i] := by
  unfold o1 at h
  split at h
  · exact ⟨_, rfl⟩
  · exact h.elim
theorem o2_of {o : Int32 → Int32 → az → Int32 × az} {tl : List sw_V} {A : az} (h : (o2 o tl A).1) : ∃ i j, tl = [.inl i, .inl j] := by
  unfold o2 at h
  split at h
  · exact ⟨_, _, rfl⟩
  · exact h.elim
theorem o3_of {o : Int32 → Int32 → Int32 → az → Int32 × az} {tl : List sw_V} {A : az} (h : (o3 o tl A).1) : ∃ i j k, tl = [.inl i, .inl j, .inl k] := by
  unfold o3 at h
  split at h
  · exact ⟨_, _, _, rfl⟩
  · exact h.elim
theorem lw_i1 (i : Int32) : lw_i [.inl i] := fun v hv => by
  simp only [List.mem_cons, List.not_mem_nil, or_false] at hv
  exact ⟨i, hv⟩
theorem lw_i2 (i j : Int32) : lw_i [.inl i, .inl j] := fun v hv => by
  simp only [List.mem_cons, List.not_mem_nil, or_false] at hv
  rcases hv with rfl | rfl <;> exact ⟨_, rfl⟩
theorem lw_i3 (i j k : Int32) : lw_i [.inl i, .inl j, .inl k] := fun v hv => by
  simp only [List.mem_cons, List.not_mem_nil, or_false] at hv
  rcases hv with rfl | rfl | rfl <;> exact ⟨_, rfl⟩
section lwSp
variable {P : az_P}
theorem lx1 {g : Nat → Int32 → sw_S → sw_X} {o : Int32 → az → Int32 × az} (h : ∀ i σ A, ai P A → crx P σ A → (g 0 i σ).1 ∧ (g 0 i σ).2.1 = some (.inl (o i A).1) ∧ crx P (g 0 i σ).2.2 (o i A).2 ∧ ai P (o i A).2) : lx_sp P (sw_foi 7 g) (o1 o) := fun tl σ A hg ha hc => by
  obtain ⟨i, rfl⟩ := o1_of hg
  exact ⟨lw_i1 i, h i σ A ha hc⟩
theorem lx2 {g : Nat → Int32 → Int32 → sw_S → sw_X} {o : Int32 → Int32 → az → Int32 × az} (h : ∀ i j σ A, ai P A → crx P σ A → (g 0 i j σ).1 ∧ (g 0 i j σ).2.1 = some (.inl (o i j A).1) ∧ crx P (g 0 i j σ).2.2 (o i j A).2 ∧ ai P (o i j A).2) : lx_sp P (sw_foii 7 g) (o2 o) := fun tl σ A hg ha hc => by
  obtain ⟨i, j, rfl⟩ := o2_of hg
  exact ⟨lw_i2 i j, h i j σ A ha hc⟩
theorem lx3 {g : Nat → Int32 → Int32 → Int32 → sw_S → sw_X} {o : Int32 → Int32 → Int32 → az → Int32 × az} (h : ∀ i j k σ A, ai P A → crx P σ A → (g 0 i j k σ).1 ∧ (g 0 i j k σ).2.1 = some (.inl (o i j k A).1) ∧ crx P (g 0 i j k σ).2.2 (o i j k A).2 ∧ ai P (o i j k A).2) : lx_sp P (sw_foiii 7 g) (o3 o) := fun tl σ A hg ha hc => by
  obtain ⟨i, j, k, rfl⟩ := o3_of hg
  exact ⟨lw_i3 i j k, h i j k σ A ha hc⟩
theorem lm1 {f7 : sw_F} {g : Nat → Int32 → sw_S → sw_X} {o : Int32 → az → Int32 × az} (hx : lx_sp P f7 (o1 o)) (h : ∀ i σ1 σ A, ai P A → crx P σ1 A → mr P σ A → (g 0 i σ).1 ∧ (g 0 i σ).2.1 = some (.inl (o i A).1) ∧ mr P (g 0 i σ).2.2 (o i A).2) : lm_sp P (sw_foi 8 g) (o1 o) := fun tl σ A hg ha hc hm => by
  obtain ⟨σ1, hc⟩ := hc
  obtain ⟨q1, -, -, q4, q5⟩ := hx tl σ1 A hg ha hc
  obtain ⟨i, rfl⟩ := o1_of hg
  obtain ⟨w1, w2, w3⟩ := h i σ1 σ A ha hc hm
  exact ⟨q1, w1, w2, w3, q5, _, q4⟩
theorem lm2 {f7 : sw_F} {g : Nat → Int32 → Int32 → sw_S → sw_X} {o : Int32 → Int32 → az → Int32 × az} (hx : lx_sp P f7 (o2 o)) (h : ∀ i j σ1 σ A, ai P A → crx P σ1 A → mr P σ A → (g 0 i j σ).1 ∧ (g 0 i j σ).2.1 = some (.inl (o i j A).1) ∧ mr P (g 0 i j σ).2.2 (o i j A).2) : lm_sp P (sw_foii 8 g) (o2 o) := fun tl σ A hg ha hc hm => by
  obtain ⟨σ1, hc⟩ := hc
  obtain ⟨q1, -, -, q4, q5⟩ := hx tl σ1 A hg ha hc
  obtain ⟨i, j, rfl⟩ := o2_of hg
  obtain ⟨w1, w2, w3⟩ := h i j σ1 σ A ha hc hm
  exact ⟨q1, w1, w2, w3, q5, _, q4⟩
theorem lm3 {f7 : sw_F} {g : Nat → Int32 → Int32 → Int32 → sw_S → sw_X} {o : Int32 → Int32 → Int32 → az → Int32 × az} (hx : lx_sp P f7 (o3 o)) (h : ∀ i j k σ1 σ A, ai P A → crx P σ1 A → mr P σ A → (g 0 i j k σ).1 ∧ (g 0 i j k σ).2.1 = some (.inl (o i j k A).1) ∧ mr P (g 0 i j k σ).2.2 (o i j k A).2) : lm_sp P (sw_foiii 8 g) (o3 o) := fun tl σ A hg ha hc hm => by
  obtain ⟨σ1, hc⟩ := hc
  obtain ⟨q1, -, -, q4, q5⟩ := hx tl σ1 A hg ha hc
  obtain ⟨i, j, k, rfl⟩ := o3_of hg
  obtain ⟨w1, w2, w3⟩ := h i j k σ1 σ A ha hc hm
  exact ⟨q1, w1, w2, w3, q5, _, q4⟩
end lwSp
section lwSite
variable {p : Program} {l : Launch} {e : Env} {R : Room} {s : State} {m : MethodId} {args : Array Value} {below : List Frame} {meth : Method} {c : Code} {ca : Nat → ClassId} {D : va_G} {Qw : State → Prop} {b0 sb L cells slots : Nat} {xs : Nat → Int32} {ad : sw_A} {V : Nat → Nat → Prop} {ln : sw_A}
theorem lw_call {H : Heap} {locs : List Loc} {pc : Nat} {ls : Array Slot} {st0 rest : List Value} {x : Int32} {σ : sw_S} {a : Array Value}
    (hr : va_Run p l e R s m args below meth c H locs cells slots 0 0 (F0 m pc ls st0) rest (sw_Qc ad V sw_rf ln ca D (some (.inl x)) σ a) (sw_ad ad V)) (hsub : ∀ q, sw_ad ad V q → ck_A b0 q) (hS : va_S (ck_A b0) s.heap H locs)
    (kk : ∀ (H1 : Heap) (locs1 : List Loc), sw_w ad V sw_rf ln ca D σ H1 → va_S (ck_A b0) s.heap H1 locs1 → (∀ q : Nat, q < H.size → ¬ sw_ad ad V q → H1[q]? = H[q]?) → W p l e R s m args below meth c H1 locs1 cells slots Qw (F0 m (pc + 3) ls (.int x :: rest))) : W p l e R s m args below meth c H locs cells slots Qw (F0 m pc ls st0) := by
  intro T hT X
  obtain ⟨v, st₀, t, T', Lo, h0, X', hL, e1, e2, ⟨hv, hw, hov, hz, hk⟩, st⟩ := hr T hT X
  cases hv
  rw [h0] at hz hk
  obtain ⟨t2, a1, b1⟩ := kk T'.heap (locs ++ Lo) (by rw [e1]; exact hw) ⟨Nat.le_trans hS.1 (by rw [e1]; exact hz), fun q h1 h2 => by rw [e1, hk q (Nat.lt_of_lt_of_le h1 hS.1) (fun z => h2 (hsub q z))]; exact hS.2.1 q h1 h2, fun q hq => by
      rcases List.mem_append.mp hq with h | h
      · exact hS.2.2 q h
      · exact hsub _ (hL q h)⟩ (fun q h1 h2 => by rw [e1]; exact hk q h1 h2) T' rfl X'
  exact ⟨t2, st t2 a1, b1⟩
theorem lw_site (S : CallFix p m c code 4 s args sw_tbl RL) (hT : va_K D vwCl (sw_ty ca) s) (hnw : sw_nw s) (hsub : ∀ q, sw_ad ad V q → ck_A b0 q)
    {y : MethodName} {cc' : ByteArray} {maxL' n : Nat} {ret' : Option FieldType} {rm' : Room} {f : sw_F} (M : sw_met l ad V sw_rf ln ca D y cc' maxL' ret' rm' (n + 1) f) (idx c0 : Nat) (h9 : c0 < 9) (hV : V c0 0)
    (hw : Cond.methodLink RL idx y ∈ sw_tbl ∧ Cond.instanceMethod y ∈ sw_tbl ∧ Cond.selects y.cls y y ∈ sw_tbl ∧ Cond.initialized y.cls ∈ sw_tbl ∧ Cond.code y cc' maxL' ret' ∈ sw_tbl)
    (hd : y.cls = (sw_cl c0).1 ∧ y.cls ≠ "java/lang/invoke/MethodHandle" ∧ y.cls ≠ "java/lang/invoke/VarHandle" ∧ (parseMethodDescriptor y.desc).map (fun d => d.parameters.length) = some n) (hrc : rm'.cells = 0 ∧ rm'.slots = 0) (hR : rm'.frames + 1 ≤ R.frames ∧ 8 + (maxL' + 11) + rm'.locals ≤ R.locals) (hcs : cells ≤ R.cells ∧ slots ≤ R.slots)
    {pc : Nat} {H : Heap} {locs : List Loc} {lsA : Array Slot} {tl : List sw_V} {rest : List Value} {σ : sw_S} {x : Int32} (hdg : decode code pc = .ok (.invokevirtual idx, 3)) (hlen : tl.length = n) (hi : lw_i tl) (hwσ : sw_w ad V sw_rf ln ca D σ H) (hS : va_S (ck_A b0) s.heap H locs) (hf : (f (.inr (some (c0, 0)) :: tl) σ).1) (hfr : (f (.inr (some (c0, 0)) :: tl) σ).2.1 = some (.inl x)) (h8 : (rest.map fun v => v.category).sum ≤ 8) (hsz : lsA.size = 4)
    (kk : ∀ (H1 : Heap) (locs1 : List Loc), sw_w ad V sw_rf ln ca D (f (.inr (some (c0, 0)) :: tl) σ).2.2 H1 → va_S (ck_A b0) s.heap H1 locs1 → (∀ q : Nat, q < H.size → ¬ sw_ad ad V q → H1[q]? = H[q]?) → W p l e R s m args below meth c H1 locs1 cells slots Qw (F0 m (pc + 3) lsA (.int x :: rest))) :
    W p l e R s m args below meth c H locs cells slots Qw (F0 m pc lsA ((tl.map (sw_em ad)).reverse ++ .ref (ad c0 0) :: rest)) := by
  have hva : ∀ v ∈ (.inr (some (c0, 0)) :: tl : List sw_V), sw_ov V v := fun v hv => by
    rcases List.mem_cons.mp hv with rfl | hv
    · exact hV
    · obtain ⟨i, rfl⟩ := hi v hv
      trivial
  have hrec := va_recv hT (hwσ.one hV rfl) (ci := c0) (q := sw_cl c0) (q0 := 0) (fs := match sw_lay c0 with
    | .inl ds => sw_fs ad sw_rf c0 0 (σ c0 0) ds 0
    | _ => []) (sw_cl_at h9) (by
      have : ∃ ds, sw_lay c0 = .inl ds := sw_9 (P := fun c0 => ∃ ds, sw_lay c0 = .inl ds) ⟨_, rfl⟩ ⟨_, rfl⟩ ⟨_, rfl⟩ ⟨_, rfl⟩ ⟨_, rfl⟩ ⟨_, rfl⟩ ⟨_, rfl⟩ ⟨_, rfl⟩ ⟨_, rfl⟩ h9
      obtain ⟨ds, hds⟩ := this
      rw [sw_en_o hds, hds]
      rfl)
  rw [← hd.1] at hrec
  have hrun := va_runV (e := e) (below := below) (meth := meth) (R := R) (locs := locs) (cells := cells) (slots := slots) (As := tl.map (sw_em ad)) (rest := rest) (g := F0 m pc lsA ((tl.map (sw_em ad)).reverse ++ .ref (ad c0 0) :: rest)) S (M _ σ (by rw [List.length_cons, hlen]) hva hf)
    (cwV n S.2.2.2.2 (fun w hw2 => by
      rcases List.mem_append.mp hw2 with h | h
      · simp only [List.mem_cons, List.not_mem_nil, or_false] at h
        rcases h with rfl | rfl | rfl | rfl
        · exact sw_tbl_good _ hw.1
        · exact sw_tbl_good _ hw.2.1
        · exact sw_tbl_good _ hw.2.2.1
        · exact sw_tbl_good _ hw.2.2.2.1
      · exact sw_good_cons hw.2.2.2.2 _ h) rfl hrc.1 hrc.2 ⟨rfl, hd.2⟩ hR)
    ⟨sw_blind, hrec, fun U hU hW => ⟨rfl, by rw [hU]; exact hwσ, va_K.moved hW.alike hT, sw_nw.warm hW hnw⟩⟩ rfl (by rw [List.length_map]; exact hlen) hsz rfl (lv_room h8) hdg hcs
  rw [hfr] at hrun
  exact lw_call hrun hsub hS kk
theorem lw_em {tl : List sw_V} (h : lw_i tl) (ad ad' : sw_A) : tl.map (sw_em ad) = tl.map (sw_em ad') := List.map_congr_left (fun v hv => by
  obtain ⟨i, rfl⟩ := h v hv
  rfl)
theorem sub1 {P : az_P} : ∀ q, sw_ad (ad1 b0 P) (vx1 P) q → ck_A b0 q := fun q h => by
  obtain ⟨c, k, -, rfl⟩ := h
  exact Nat.le_add_right _ _
theorem sub2 {M : Nat} : ∀ q, sw_ad (ad2 b0 M) vx2 q → ck_A b0 q := fun q h => by
  obtain ⟨c, k, -, rfl⟩ := h
  exact Nat.le_add_right _ _
theorem ix2_ge {M c k : Nat} : M ≤ ix2 M c k := by
  unfold ix2
  split <;> omega
theorem keep2 {P : az_P} {σ : sw_S} {H H1 : Heap} (h : sw_w (ad2 b0 (wb3 P 1)) vx2 sw_rf (lz P) ca D σ H) (hk : ∀ q : Nat, q < H.size → ¬ sw_ad (ad1 b0 P) (vx1 P) q → H1[q]? = H[q]?) : sw_w (ad2 b0 (wb3 P 1)) vx2 sw_rf (lz P) ca D σ H1 := fun c k hv => (h c k hv).kept (hk _ (h c k hv).lt (fun z => by
  obtain ⟨c', k', h1, h2⟩ := z
  have := ix1_lt h1
  have h3 := ix2_ge (M := wb3 P 1) (c := c) (k := k)
  have h2 : b0 + ix1 P c' k' = b0 + ix2 (wb3 P 1) c k := h2
  omega))
theorem keep1 {P : az_P} {σ : sw_S} {H H1 : Heap} (h : sw_w (ad1 b0 P) (vx1 P) sw_rf (lz P) ca D σ H) (hk : ∀ q : Nat, q < H.size → ¬ sw_ad (ad2 b0 (wb3 P 1)) vx2 q → H1[q]? = H[q]?) : sw_w (ad1 b0 P) (vx1 P) sw_rf (lz P) ca D σ H1 := fun c k hv => (h c k hv).kept (hk _ (h c k hv).lt (fun z => by
  obtain ⟨c', k', h1, h2⟩ := z
  have := ix1_lt hv
  have h3 := ix2_ge (M := wb3 P 1) (c := c') (k := k')
  have h2 : b0 + ix2 (wb3 P 1) c' k' = b0 + ix1 P c k := h2
  omega))
theorem lx_ok {P : az_P} (S : CallFix p m c code 4 s args sw_tbl RL) (hT : va_K D vwCl (sw_ty ca) s) (hnw : sw_nw s)
    {y : MethodName} {cc' : ByteArray} {maxL' n : Nat} {ret' : Option FieldType} {rm' : Room} {f : sw_F} {g : lw_O} (M : sw_met l (ad1 b0 P) (vx1 P) sw_rf (lz P) ca D y cc' maxL' ret' rm' (n + 1) f) (hsp : lx_sp P f g) (idx : Nat)
    (hw : Cond.methodLink RL idx y ∈ sw_tbl ∧ Cond.instanceMethod y ∈ sw_tbl ∧ Cond.selects y.cls y y ∈ sw_tbl ∧ Cond.initialized y.cls ∈ sw_tbl ∧ Cond.code y cc' maxL' ret' ∈ sw_tbl)
    (hd : y.cls = (sw_cl 7).1 ∧ y.cls ≠ "java/lang/invoke/MethodHandle" ∧ y.cls ≠ "java/lang/invoke/VarHandle" ∧ (parseMethodDescriptor y.desc).map (fun d => d.parameters.length) = some n) (hrc : rm'.cells = 0 ∧ rm'.slots = 0) (hR : rm'.frames + 1 ≤ R.frames ∧ 8 + (maxL' + 11) + rm'.locals ≤ R.locals) (hcs : cells ≤ R.cells ∧ slots ≤ R.slots) :
    gs_cok (lw_W b0 P ca D) (fun _ => cells) (fun _ => slots) (ck_A b0) p l e R s m args below meth c (adB sb b0 P) ck_V code 4 Qw (0, idx, n + 1, lx g) := by
  intro pc H locs lsA avs rest τ hdg hlen hva hwσ hS hf h8 hsz kk
  obtain ⟨tl, rfl, hg⟩ : ∃ tl, avs = .inr (some (7, 0)) :: tl ∧ (g tl τ.1).1 := by
    have hf : (lx g avs τ).1 := hf
    unfold lx at hf
    split at hf
    · obtain ⟨rfl, h2⟩ := hf
      exact ⟨_, rfl, h2⟩
    · exact hf.elim
  obtain ⟨⟨σ, hw1, hc⟩, hai, ⟨σ2, hw2, hm⟩, hai2, hc2⟩ := hwσ
  obtain ⟨hint, hp, hr, hc', hai'⟩ := hsp tl σ τ.1 hg hai hc
  have hlen : tl.length = n := Nat.succ.inj hlen
  have hgo := lw_site (e := e) (below := below) (meth := meth) (Qw := Qw) (b0 := b0) S hT hnw sub1 M idx 7 (by decide) (show vx1 P 7 0 from rfl) hw hd hrc hR hcs hdg hlen hint hw1 hS hp hr h8 hsz (fun H1 locs1 w1 s1 k1 => kk H1 locs1 ⟨⟨_, w1, hc'⟩, hai', ⟨σ2, keep2 hw2 k1, hm⟩, hai2, hc2⟩ s1 (fun v _ => ck_ov v))
  rw [lw_em hint (ad1 b0 P) (adB sb b0 P)] at hgo
  rw [List.map_cons, List.reverse_cons, List.append_assoc]
  exact hgo
theorem lm_ok {P : az_P} (S : CallFix p m c code 4 s args sw_tbl RL) (hT : va_K D vwCl (sw_ty ca) s) (hnw : sw_nw s)
    {y : MethodName} {cc' : ByteArray} {maxL' n : Nat} {ret' : Option FieldType} {rm' : Room} {f : sw_F} {g : lw_O} (M : sw_met l (ad2 b0 (wb3 P 1)) vx2 sw_rf (lz P) ca D y cc' maxL' ret' rm' (n + 1) f) (hsp : lm_sp P f g) (idx : Nat)
    (hw : Cond.methodLink RL idx y ∈ sw_tbl ∧ Cond.instanceMethod y ∈ sw_tbl ∧ Cond.selects y.cls y y ∈ sw_tbl ∧ Cond.initialized y.cls ∈ sw_tbl ∧ Cond.code y cc' maxL' ret' ∈ sw_tbl)
    (hd : y.cls = (sw_cl 8).1 ∧ y.cls ≠ "java/lang/invoke/MethodHandle" ∧ y.cls ≠ "java/lang/invoke/VarHandle" ∧ (parseMethodDescriptor y.desc).map (fun d => d.parameters.length) = some n) (hrc : rm'.cells = 0 ∧ rm'.slots = 0) (hR : rm'.frames + 1 ≤ R.frames ∧ 8 + (maxL' + 11) + rm'.locals ≤ R.locals) (hcs : cells ≤ R.cells ∧ slots ≤ R.slots) :
    gs_cok (lw_W b0 P ca D) (fun _ => cells) (fun _ => slots) (ck_A b0) p l e R s m args below meth c (adB sb b0 P) ck_V code 4 Qw (0, idx, n + 1, lm g) := by
  intro pc H locs lsA avs rest τ hdg hlen hva hwσ hS hf h8 hsz kk
  obtain ⟨tl, rfl, hg⟩ : ∃ tl, avs = .inr (some (8, 0)) :: tl ∧ (g tl τ.2).1 := by
    have hf : (lm g avs τ).1 := hf
    unfold lm at hf
    split at hf
    · obtain ⟨rfl, h2⟩ := hf
      exact ⟨_, rfl, h2⟩
    · exact hf.elim
  obtain ⟨⟨σ, hw1, hc⟩, hai, ⟨σ2, hw2, hm⟩, hai2, hc2⟩ := hwσ
  obtain ⟨hint, hp, hr, hm', hai2', hc2'⟩ := hsp tl σ2 τ.2 hg hai2 hc2 hm
  have hlen : tl.length = n := Nat.succ.inj hlen
  have hgo := lw_site (e := e) (below := below) (meth := meth) (Qw := Qw) (b0 := b0) S hT hnw sub2 M idx 8 (by decide) (show vx2 8 0 from Or.inl ⟨rfl, rfl⟩) hw hd hrc hR hcs hdg hlen hint hw2 hS hp hr h8 hsz (fun H1 locs1 w1 s1 k1 => kk H1 locs1 ⟨⟨σ, keep1 hw1 k1, hc⟩, hai, ⟨_, w1, hm'⟩, hai2', hc2'⟩ s1 (fun v _ => ck_ov v))
  rw [lw_em hint (ad2 b0 (wb3 P 1)) (adB sb b0 P)] at hgo
  rw [List.map_cons, List.reverse_cons, List.append_assoc]
  exact hgo
end lwSite
