/-! The law: its loop -/
abbrev lwS (i : Int32) : sw_L := [some (.inr (some (1, 0))), some (.inr (some (7, 0))), some (.inr (some (8, 0))), some (.inl i)]
abbrev lwG (P : az_P) (L : Nat) (xs : Nat → Int32) (G : Nat → sw_L → List sw_V → lw_T → Prop) : Prop := ∀ stop k pc L' st τ, gs_ws (jcLB P L xs) jsL_law 695 jtL_law (fun r _ => r = some (.inl 1)) G stop k pc L' st τ → G pc L' st τ
section lwLoop
variable {P : az_P} {L : Nat} {xs : Nat → Int32} {G : Nat → sw_L → List sw_V → lw_T → Prop}
set_option maxRecDepth 100000 in
theorem lc_open (hG : lwG P L xs G) {i : Int32} (h1 : vp_in (i + 1) L) (h2 : vp_in (i + 2) L) (h3 : vp_in (i + 3) L) (A : az) (hn : ∀ A1, G 68 (lwS (i + 4)) [] (A1, A1)) : G 160 (lwS i) [] (A, A) := by
  refine hG (fun pc => Nat.beq pc 68) 60 160 _ _ _ (And.intro h1 (And.intro h2 (And.intro ⟨rfl, trivial⟩ (And.intro h1 (And.intro h2 (And.intro ⟨rfl, trivial⟩ (And.intro (fun _ => ?_) (fun z => absurd rfl z))))))))
  exact hn _
set_option maxRecDepth 100000 in
theorem lc_send (hG : lwG P L xs G) {i : Int32} (h1 : vp_in (i + 1) L) (h2 : vp_in (i + 2) L) (h3 : vp_in (i + 3) L) (A : az) (hn : ∀ A1, G 68 (lwS (i + 4)) [] (A1, A1)) : G 193 (lwS i) [] (A, A) := by
  refine hG (fun pc => Nat.beq pc 68) 60 193 _ _ _ (And.intro h1 (And.intro h2 (And.intro h3 (And.intro ⟨rfl, trivial⟩ (And.intro h1 (And.intro h2 (And.intro h3 (And.intro ⟨rfl, trivial⟩ (And.intro (fun _ => ?_) (fun z => absurd rfl z))))))))))
  exact hn _
set_option maxRecDepth 100000 in
theorem lc_mark (hG : lwG P L xs G) {i : Int32} (h1 : vp_in (i + 1) L) (h2 : vp_in (i + 2) L) (h3 : vp_in (i + 3) L) (A : az) (hn : ∀ A1, G 68 (lwS (i + 4)) [] (A1, A1)) : G 236 (lwS i) [] (A, A) := by
  refine hG (fun pc => Nat.beq pc 68) 60 236 _ _ _ (And.intro h1 (And.intro h2 (And.intro ⟨rfl, trivial⟩ (And.intro h1 (And.intro h2 (And.intro ⟨rfl, trivial⟩ (And.intro (fun _ => ?_) (fun z => absurd rfl z))))))))
  exact hn _
set_option maxRecDepth 100000 in
theorem lc_close (hG : lwG P L xs G) {i : Int32} (h1 : vp_in (i + 1) L) (h2 : vp_in (i + 2) L) (h3 : vp_in (i + 3) L) (A : az) (hn : ∀ A1, G 68 (lwS (i + 4)) [] (A1, A1)) : G 269 (lwS i) [] (A, A) := by
  refine hG (fun pc => Nat.beq pc 68) 60 269 _ _ _ (And.intro h1 (And.intro h2 (And.intro ⟨rfl, trivial⟩ (And.intro h1 (And.intro h2 (And.intro ⟨rfl, trivial⟩ (And.intro (fun _ => ?_) (fun z => absurd rfl z))))))))
  exact hn _
set_option maxRecDepth 100000 in
theorem lc_receive (hG : lwG P L xs G) {i : Int32} (h1 : vp_in (i + 1) L) (h2 : vp_in (i + 2) L) (h3 : vp_in (i + 3) L) (A : az) (hn : ∀ A1, G 68 (lwS (i + 4)) [] (A1, A1)) : G 302 (lwS i) [] (A, A) := by
  refine hG (fun pc => Nat.beq pc 68) 60 302 _ _ _ (And.intro h1 (And.intro h2 (And.intro ⟨rfl, trivial⟩ (And.intro h1 (And.intro h2 (And.intro ⟨rfl, trivial⟩ (And.intro (fun _ => ?_) (fun z => absurd rfl z))))))))
  exact hn _
set_option maxRecDepth 100000 in
theorem lc_word (hG : lwG P L xs G) {i : Int32} (h1 : vp_in (i + 1) L) (h2 : vp_in (i + 2) L) (h3 : vp_in (i + 3) L) (A : az) (hn : ∀ A1, G 68 (lwS (i + 4)) [] (A1, A1)) : G 335 (lwS i) [] (A, A) := by
  refine hG (fun pc => Nat.beq pc 68) 60 335 _ _ _ (And.intro h1 (And.intro ⟨rfl, trivial⟩ (And.intro h1 (And.intro ⟨rfl, trivial⟩ (And.intro (fun _ => ?_) (fun z => absurd rfl z))))))
  exact hn _
set_option maxRecDepth 100000 in
theorem lc_weight (hG : lwG P L xs G) {i : Int32} (h1 : vp_in (i + 1) L) (h2 : vp_in (i + 2) L) (h3 : vp_in (i + 3) L) (A : az) (hn : ∀ A1, G 68 (lwS (i + 4)) [] (A1, A1)) : G 358 (lwS i) [] (A, A) := by
  refine hG (fun pc => Nat.beq pc 68) 60 358 _ _ _ (And.intro h1 (And.intro h2 (And.intro h3 (And.intro ⟨rfl, trivial⟩ (And.intro h1 (And.intro h2 (And.intro h3 (And.intro ⟨rfl, trivial⟩ (And.intro (fun _ => ?_) (fun z => absurd rfl z))))))))))
  exact hn _
set_option maxRecDepth 100000 in
theorem lc_pump (hG : lwG P L xs G) {i : Int32} (h1 : vp_in (i + 1) L) (h2 : vp_in (i + 2) L) (h3 : vp_in (i + 3) L) (A : az) (hn : ∀ A1, G 68 (lwS (i + 4)) [] (A1, A1)) : G 401 (lwS i) [] (A, A) := by
  refine hG (fun pc => Nat.beq pc 68) 60 401 _ _ _ (And.intro h1 (And.intro ⟨rfl, trivial⟩ (And.intro h1 (And.intro ⟨rfl, trivial⟩ (And.intro (fun _ => ?_) (fun z => absurd rfl z))))))
  exact hn _
set_option maxRecDepth 100000 in
theorem lc_drain (hG : lwG P L xs G) {i : Int32} (h1 : vp_in (i + 1) L) (h2 : vp_in (i + 2) L) (h3 : vp_in (i + 3) L) (A : az) (hn : ∀ A1, G 68 (lwS (i + 4)) [] (A1, A1)) : G 424 (lwS i) [] (A, A) := by
  refine hG (fun pc => Nat.beq pc 68) 60 424 _ _ _ (And.intro h1 (And.intro h2 (And.intro ⟨rfl, trivial⟩ (And.intro h1 (And.intro h2 (And.intro ⟨rfl, trivial⟩ (And.intro (fun _ => ?_) (fun z => absurd rfl z))))))))
  exact hn _
set_option maxRecDepth 100000 in
theorem lc_deliver (hG : lwG P L xs G) {i : Int32} (h1 : vp_in (i + 1) L) (h2 : vp_in (i + 2) L) (h3 : vp_in (i + 3) L) (A : az) (hn : ∀ A1, G 68 (lwS (i + 4)) [] (A1, A1)) : G 457 (lwS i) [] (A, A) := by
  refine hG (fun pc => Nat.beq pc 68) 60 457 _ _ _ (And.intro h1 (And.intro ⟨rfl, trivial⟩ (And.intro h1 (And.intro ⟨rfl, trivial⟩ (And.intro (fun _ => ?_) (fun z => absurd rfl z))))))
  exact hn _
set_option maxRecDepth 100000 in
theorem lc_lose (hG : lwG P L xs G) {i : Int32} (h1 : vp_in (i + 1) L) (h2 : vp_in (i + 2) L) (h3 : vp_in (i + 3) L) (A : az) (hn : ∀ A1, G 68 (lwS (i + 4)) [] (A1, A1)) : G 480 (lwS i) [] (A, A) := by
  refine hG (fun pc => Nat.beq pc 68) 60 480 _ _ _ (And.intro h1 (And.intro ⟨rfl, trivial⟩ (And.intro h1 (And.intro ⟨rfl, trivial⟩ (And.intro (fun _ => ?_) (fun z => absurd rfl z))))))
  exact hn _
set_option maxRecDepth 100000 in
theorem lc_corrupt (hG : lwG P L xs G) {i : Int32} (h1 : vp_in (i + 1) L) (h2 : vp_in (i + 2) L) (h3 : vp_in (i + 3) L) (A : az) (hn : ∀ A1, G 68 (lwS (i + 4)) [] (A1, A1)) : G 503 (lwS i) [] (A, A) := by
  refine hG (fun pc => Nat.beq pc 68) 60 503 _ _ _ (And.intro h1 (And.intro h2 (And.intro h3 (And.intro ⟨rfl, trivial⟩ (And.intro h1 (And.intro h2 (And.intro h3 (And.intro ⟨rfl, trivial⟩ (And.intro (fun _ => ?_) (fun z => absurd rfl z))))))))))
  exact hn _
set_option maxRecDepth 100000 in
theorem lc_timeout (hG : lwG P L xs G) {i : Int32} (h1 : vp_in (i + 1) L) (h2 : vp_in (i + 2) L) (h3 : vp_in (i + 3) L) (A : az) (hn : ∀ A1, G 68 (lwS (i + 4)) [] (A1, A1)) : G 546 (lwS i) [] (A, A) := by
  refine hG (fun pc => Nat.beq pc 68) 60 546 _ _ _ (And.intro h1 (And.intro ⟨rfl, trivial⟩ (And.intro h1 (And.intro ⟨rfl, trivial⟩ (And.intro (fun _ => ?_) (fun z => absurd rfl z))))))
  exact hn _
set_option maxRecDepth 100000 in
theorem lc_wire (hG : lwG P L xs G) {i : Int32} (h1 : vp_in (i + 1) L) (h2 : vp_in (i + 2) L) (h3 : vp_in (i + 3) L) (A : az) (hn : ∀ A1, G 68 (lwS (i + 4)) [] (A1, A1)) : G 569 (lwS i) [] (A, A) := by
  refine hG (fun pc => Nat.beq pc 68) 60 569 _ _ _ (And.intro h1 (And.intro h2 (And.intro h3 (And.intro ⟨rfl, trivial⟩ (And.intro h1 (And.intro h2 (And.intro h3 (And.intro ⟨rfl, trivial⟩ (And.intro (fun _ => ?_) (fun z => absurd rfl z))))))))))
  exact hn _
set_option maxRecDepth 100000 in
theorem lc_stream (hG : lwG P L xs G) {i : Int32} (h1 : vp_in (i + 1) L) (h2 : vp_in (i + 2) L) (h3 : vp_in (i + 3) L) (A : az) (hn : ∀ A1, G 68 (lwS (i + 4)) [] (A1, A1)) : G 612 (lwS i) [] (A, A) := by
  refine hG (fun pc => Nat.beq pc 68) 60 612 _ _ _ (And.intro h1 (And.intro h2 (And.intro h3 (And.intro ⟨rfl, trivial⟩ (And.intro h1 (And.intro h2 (And.intro h3 (And.intro ⟨rfl, trivial⟩ (And.intro (fun _ => ?_) (fun z => absurd rfl z))))))))))
  exact hn _
set_option maxRecDepth 100000 in
theorem lc_side (hG : lwG P L xs G) {i : Int32} (h1 : vp_in (i + 1) L) (h2 : vp_in (i + 2) L) (h3 : vp_in (i + 3) L) (A : az) (hn : ∀ A1, G 68 (lwS (i + 4)) [] (A1, A1)) : G 655 (lwS i) [] (A, A) := by
  refine hG (fun pc => Nat.beq pc 68) 60 655 _ _ _ (And.intro h1 (And.intro h2 (And.intro ⟨rfl, trivial⟩ (And.intro h1 (And.intro h2 (And.intro ⟨rfl, trivial⟩ (And.intro (fun _ => ?_) (fun z => absurd rfl z))))))))
  exact hn _
end lwLoop
