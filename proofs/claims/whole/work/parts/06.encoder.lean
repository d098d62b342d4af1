/-! The encoder of instructions, and: each step of the abstract machine is the machine's -/
def sw_cc : Jvm.ClassFile.Cond → Nat
  | .eq => 0
  | .ne => 1
  | .lt => 2
  | .ge => 3
  | .gt => 4
  | .le => 5
abbrev sw_bad : sw_I := (99, 0, 0, 0, 0)
def sw_ln (n k : Nat) (i : sw_I) : sw_I := bif Nat.beq n k then i else sw_bad
def sw_tg (pc : Nat) (off : Int) (f : Nat → sw_I) : sw_I := if 0 ≤ (pc : Int) + off then f ((pc : Int) + off).toNat else sw_bad
def sw_tsk (pc : Nat) (lo hi : Int) (offs : List Int) (TS : List (Int32 × Nat)) : Bool :=
  decide (TS.length = offs.length) && decide (hi - lo + 1 = (offs.length : Int)) && decide (TS.map (fun q => q.1.toInt) = (List.range offs.length).map (fun i : Nat => lo + (i : Int))) && decide (offs.map (fun o => (pc : Int) + o) = TS.map (fun q => (q.2 : Int)))
def sw_lsk (pc : Nat) (ps : List (Int × Int)) (TS : List (Int32 × Nat)) : Bool :=
  decide (ps = TS.map (fun q => (q.1.toInt, (q.2 : Int) - (pc : Int)))) && (ps.zip (ps.drop 1)).all (fun (a, next) => a.1 < next.1)
def sw_o {α : Type} (o : Option α) (f : α → sw_I) : sw_I := match o with
  | some q => f q
  | none => sw_bad
def sw_ec (fl : List (Nat × Nat × Nat)) (cn : List (Nat × Int32)) (TS : List (Int32 × Nat)) (pc n : Nat) : Instr → sw_I
  | .iconst z => sw_ln n 1 (0, 0, 0, pc + 1, Int32.ofInt z)
  | .bipush z => sw_ln n 2 (0, 0, 0, pc + 2, (Int8.ofInt z).toInt32)
  | .sipush z => sw_ln n 3 (0, 0, 0, pc + 3, (Int16.ofInt z).toInt32)
  | .ldc idx => sw_ln n 2 (sw_o (sw_cn cn idx) (fun v => (0, 0, 0, pc + 2, v)))
  | .iload i => sw_ln n 2 (1, i, 0, pc + 2, 0)
  | .iload_n i => sw_ln n 1 (1, i.val, 0, pc + 1, 0)
  | .aload i => sw_ln n 2 (2, i, 0, pc + 2, 0)
  | .aload_n i => sw_ln n 1 (2, i.val, 0, pc + 1, 0)
  | .istore i => sw_ln n 2 (3, i, 0, pc + 2, 0)
  | .istore_n i => sw_ln n 1 (3, i.val, 0, pc + 1, 0)
  | .astore i => sw_ln n 2 (4, i, 0, pc + 2, 0)
  | .astore_n i => sw_ln n 1 (4, i.val, 0, pc + 1, 0)
  | .iinc i z => sw_ln n 3 (5, i, 0, pc + 3, Int32.ofInt z)
  | .iadd => sw_ln n 1 (6, 0, 0, pc + 1, 0)
  | .isub => sw_ln n 1 (6, 1, 0, pc + 1, 0)
  | .imul => sw_ln n 1 (6, 2, 0, pc + 1, 0)
  | .iand => sw_ln n 1 (6, 3, 0, pc + 1, 0)
  | .ior => sw_ln n 1 (6, 4, 0, pc + 1, 0)
  | .ixor => sw_ln n 1 (6, 5, 0, pc + 1, 0)
  | .ishl => sw_ln n 1 (6, 6, 0, pc + 1, 0)
  | .ishr => sw_ln n 1 (6, 7, 0, pc + 1, 0)
  | .iushr => sw_ln n 1 (6, 8, 0, pc + 1, 0)
  | .idiv => sw_ln n 1 (26, 0, 0, pc + 1, 0)
  | .irem => sw_ln n 1 (27, 0, 0, pc + 1, 0)
  | .getfield idx => sw_ln n 3 (sw_o (sw_fl fl idx) (fun q => (7, q.1, q.2, pc + 3, 0)))
  | .putfield idx => sw_ln n 3 (sw_o (sw_fl fl idx) (fun q => (8, q.1, q.2, pc + 3, 0)))
  | .iaload => sw_ln n 1 (9, 0, 0, pc + 1, 0)
  | .baload => sw_ln n 1 (9, 1, 0, pc + 1, 0)
  | .aaload => sw_ln n 1 (9, 2, 0, pc + 1, 0)
  | .iastore => sw_ln n 1 (10, 0, 0, pc + 1, 0)
  | .bastore => sw_ln n 1 (10, 1, 0, pc + 1, 0)
  | .arraylength => sw_ln n 1 (11, 0, 0, pc + 1, 0)
  | .ifCond cd off => sw_ln n 3 (sw_tg pc off (fun t => (12, sw_cc cd, t, pc + 3, 0)))
  | .if_icmp cd off => sw_ln n 3 (sw_tg pc off (fun t => (13, sw_cc cd, t, pc + 3, 0)))
  | .ifnull off => sw_ln n 3 (sw_tg pc off (fun t => (14, 0, t, pc + 3, 0)))
  | .ifnonnull off => sw_ln n 3 (sw_tg pc off (fun t => (15, 0, t, pc + 3, 0)))
  | .goto off => sw_ln n 3 (sw_tg pc off (fun t => (16, 0, t, 0, 0)))
  | .tableswitch d lo hi offs => bif sw_tsk pc lo hi offs.toList TS then sw_tg pc d (fun t => (17, t, 0, 0, 0)) else sw_bad
  | .lookupswitch d ps => bif sw_lsk pc ps.toList TS then sw_tg pc d (fun t => (17, t, 0, 0, 0)) else sw_bad
  | .invokevirtual idx => sw_ln n 3 (18, idx, 0, pc + 3, 0)
  | .invokestatic idx => sw_ln n 3 (18, idx, 1, pc + 3, 0)
  | .ireturn => sw_ln n 1 (19, 0, 0, 0, 0)
  | .areturn => sw_ln n 1 (20, 0, 0, 0, 0)
  | .return_ => sw_ln n 1 (21, 0, 0, 0, 0)
  | .dup => sw_ln n 1 (22, 0, 0, pc + 1, 0)
  | .dup2 => sw_ln n 1 (23, 0, 0, pc + 1, 0)
  | .pop => sw_ln n 1 (24, 0, 0, pc + 1, 0)
  | .aconst_null => sw_ln n 1 (25, 0, 0, pc + 1, 0)
  | _ => sw_bad
section swStep
variable {rf : sw_R} {ln : sw_A} {CT : sw_C} {TS : List (Int32 × Nat)} {rt : Nat} {Qr : Option sw_V → sw_S → Prop} {K : Nat → sw_L → List sw_V → sw_S → Prop} {L : sw_L} {st : List sw_V} {σ : sw_S}
theorem sw_ln_st {n k : Nat} {i : sw_I} (h : sw_st rf ln CT TS rt Qr K (sw_ln n k i) L st σ) : n = k ∧ sw_st rf ln CT TS rt Qr K i L st σ := by
  unfold sw_ln at h
  by_cases hb : Nat.beq n k = true
  · rw [hb, cond_true] at h
    exact ⟨Nat.eq_of_beq_eq_true hb, h⟩
  · rw [Bool.not_eq_true] at hb
    rw [hb, cond_false] at h
    exact False.elim h
theorem sw_tg_st {pc : Nat} {off : Int} {f : Nat → sw_I} (h : sw_st rf ln CT TS rt Qr K (sw_tg pc off f) L st σ) : ∃ t : Nat, (pc : Int) + off = (t : Int) ∧ sw_st rf ln CT TS rt Qr K (f t) L st σ := by
  unfold sw_tg at h
  by_cases hb : 0 ≤ (pc : Int) + off
  · rw [if_pos hb] at h
    exact ⟨_, (Int.toNat_of_nonneg hb).symm, h⟩
  · rw [if_neg hb] at h
    exact False.elim h
theorem sw_if_st {b : Bool} {i : sw_I} (h : sw_st rf ln CT TS rt Qr K (bif b then i else sw_bad) L st σ) : b = true ∧ sw_st rf ln CT TS rt Qr K i L st σ := by
  cases b with
  | true => exact ⟨rfl, h⟩
  | false => exact False.elim h
theorem sw_op_st {α : Type} {o : Option α} {f : α → sw_I} (h : sw_st rf ln CT TS rt Qr K (sw_o o f) L st σ) : ∃ q, o = some q ∧ sw_st rf ln CT TS rt Qr K (f q) L st σ := by
  cases o with
  | none => exact False.elim h
  | some q => exact ⟨q, rfl, h⟩
end swStep
theorem sw_fl_in : ∀ {fl : List (Nat × Nat × Nat)} {i : Nat} {q : Nat × Nat}, sw_fl fl i = some q → (i, q) ∈ fl
  | [], _, _, h => by cases h
  | x :: l, i, q, h => by
    unfold sw_fl at h
    by_cases hb : Nat.beq x.1 i = true
    · rw [hb, cond_true] at h
      have h1 := Nat.eq_of_beq_eq_true hb
      have h2 := Option.some.inj h
      rw [← h1, ← h2]
      exact List.mem_cons_self
    · rw [Bool.not_eq_true] at hb
      rw [hb, cond_false] at h
      exact List.mem_cons_of_mem _ (sw_fl_in h)
theorem sw_cn_in : ∀ {fl : List (Nat × Int32)} {i : Nat} {q : Int32}, sw_cn fl i = some q → (i, q) ∈ fl
  | [], _, _, h => by cases h
  | x :: l, i, q, h => by
    unfold sw_cn at h
    by_cases hb : Nat.beq x.1 i = true
    · rw [hb, cond_true] at h
      have h1 := Nat.eq_of_beq_eq_true hb
      have h2 := Option.some.inj h
      rw [← h1, ← h2]
      exact List.mem_cons_self
    · rw [Bool.not_eq_true] at hb
      rw [hb, cond_false] at h
      exact List.mem_cons_of_mem _ (sw_cn_in h)
theorem sw_lk_in : ∀ {CT : sw_C} {i : Nat} {q : Nat × Nat × sw_F}, sw_lk CT i = some q → (i, q) ∈ CT
  | [], _, _, h => by cases h
  | x :: l, i, q, h => by
    unfold sw_lk at h
    by_cases hb : Nat.beq x.1 i = true
    · rw [hb, cond_true] at h
      have h1 := Nat.eq_of_beq_eq_true hb
      have h2 := Option.some.inj h
      rw [← h1, ← h2]
      exact List.mem_cons_self
    · rw [Bool.not_eq_true] at hb
      rw [hb, cond_false] at h
      exact List.mem_cons_of_mem _ (sw_lk_in h)
theorem sw_tk_of : ∀ {n : Nat} {st acc avs rest : List sw_V}, sw_tk n st acc = some (avs, rest) → acc.reverse ++ avs.drop 0 = acc.reverse ++ avs ∧ avs.length = n + acc.length ∧ ∃ pre : List sw_V, st = pre ++ rest ∧ avs = pre.reverse ++ acc
  | 0, st, acc, avs, rest, h => by
    cases h
    exact ⟨rfl, by omega, [], rfl, rfl⟩
  | n + 1, [], acc, avs, rest, h => by cases h
  | n + 1, v :: st, acc, avs, rest, h => by
    obtain ⟨-, h2, pre, h3, h4⟩ := sw_tk_of (n := n) (st := st) (acc := v :: acc) h
    refine ⟨rfl, by rw [h2, List.length_cons]; omega, v :: pre, by rw [h3]; rfl, by rw [h4]; simp⟩
theorem sw_sw_at {x : Int32} {d : Nat} {K : Nat → Prop} : ∀ {l : List (Int32 × Nat)}, sw_sw x d K l → ∀ (i : Nat) (q : Int32 × Nat), l[i]? = some q → q.1 = x → (∀ (j : Nat) (q' : Int32 × Nat), j < i → l[j]? = some q' → ¬ q'.1 = x) → K q.2
  | [], _, i, q, hq, _, _ => by simp at hq
  | a :: l, h, 0, q, hq, hx, _ => by
    cases hq
    exact h.1 hx.symm
  | a :: l, h, i + 1, q, hq, hx, ho => sw_sw_at (l := l) (h.2 (fun z => ho 0 a (Nat.zero_lt_succ _) rfl z.symm)) i q hq hx (fun j q' hj hq' => ho (j + 1) q' (Nat.succ_lt_succ hj) hq')
theorem sw_sw_no {x : Int32} {d : Nat} {K : Nat → Prop} : ∀ {l : List (Int32 × Nat)}, sw_sw x d K l → (∀ (j : Nat) (q' : Int32 × Nat), l[j]? = some q' → ¬ q'.1 = x) → K d
  | [], h, _ => h
  | a :: l, h, ho => sw_sw_no (l := l) (h.2 (fun z => ho 0 a rfl z.symm)) (fun j q' hq' => ho (j + 1) q' hq')
theorem sw_sw_look {x : Int32} {d : Nat} {K : Nat → Prop} {pc : Nat} {dd : Int} (hd : (pc : Int) + dd = (d : Int)) : ∀ {l : List (Int32 × Nat)}, sw_sw x d K l → ∃ t : Nat, (pc : Int) + Op.lookupswitch.offset (l.map (fun q => (q.1.toInt, (q.2 : Int) - (pc : Int)))) dd x.toInt = (t : Int) ∧ K t
  | [], h => ⟨d, hd, h⟩
  | a :: l, h => by
    rw [List.map_cons, Op.lookupswitch.offset_cons]
    by_cases hx : a.1.toInt = x.toInt
    · rw [if_pos hx]
      exact ⟨a.2, by omega, h.1 (Int32.toInt_inj.mp hx).symm⟩
    · rw [if_neg hx]
      exact sw_sw_look hd (h.2 (fun z => hx (by rw [z])))
