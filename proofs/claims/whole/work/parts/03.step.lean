/-! one instruction over a world by names: what must be shown before it, given what is to be shown behind it -/
def zt (pc : Nat) (off : Int) : Nat := ((pc : Int) + off).toNat
def zi (n : Int) : Int32 := match n with
  | .ofNat k => nI k
  | .negSucc k => -(nI (k + 1))
abbrev zP : Type := Nat → zS → zL → List Value → Prop
def zald (k : zP) (pc : Nat) (ws : zS) (lv : zL) (st : List Value) (n : Nat) : Prop := match lv[n]? with
  | some (some (.ref a)) => k pc ws lv (.ref a :: st)
  | some (some .null) => k pc ws lv (.null :: st)
  | _ => False
def zild (k : zP) (pc : Nat) (ws : zS) (lv : zL) (st : List Value) (n : Nat) : Prop := match lv[n]? with
  | some (some (.int a)) => k pc ws lv (.int a :: st)
  | _ => False
def zlld (k : zP) (pc : Nat) (ws : zS) (lv : zL) (st : List Value) (n : Nat) : Prop := match lv[n]? with
  | some (some (.long a)) => k pc ws lv (.long a :: st)
  | _ => False
def zist (k : zP) (pc : Nat) (ws : zS) (lv : zL) (st : List Value) (n : Nat) : Prop := match st with
  | .int x :: r => (match zok lv n with
    | true => k pc ws (lv.set n (some (.int x))) r
    | false => False)
  | _ => False
def zast (k : zP) (pc : Nat) (ws : zS) (lv : zL) (st : List Value) (n : Nat) : Prop := match st with
  | .ref x :: r => (match zok lv n with
    | true => k pc ws (lv.set n (some (.ref x))) r
    | false => False)
  | .null :: r => (match zok lv n with
    | true => k pc ws (lv.set n (some .null)) r
    | false => False)
  | _ => False
def zinc (k : zP) (pc : Nat) (ws : zS) (lv : zL) (st : List Value) (n : Nat) (d : Int) : Prop := match lv[n]? with
  | some (some (.int a)) => (match zok lv n with
    | true => k pc ws (lv.set n (some (.int (a + zi d)))) st
    | false => False)
  | _ => False
def zI1 (st : List Value) (f : Int32 → List Value → Prop) : Prop := match st with
  | .int x :: r => f x r
  | _ => False
def zI2 (st : List Value) (f : Int32 → Int32 → List Value → Prop) : Prop := match st with
  | .int y :: .int x :: r => f x y r
  | _ => False
def zJ1 (st : List Value) (f : Int64 → List Value → Prop) : Prop := match st with
  | .long x :: r => f x r
  | _ => False
def zJ2 (st : List Value) (f : Int64 → Int64 → List Value → Prop) : Prop := match st with
  | .long y :: .long x :: r => f x y r
  | _ => False
def zJI (st : List Value) (f : Int64 → Int32 → List Value → Prop) : Prop := match st with
  | .int y :: .long x :: r => f x y r
  | _ => False
def zc1 : Value → Bool
  | .long _ => false
  | .double _ => false
  | _ => true
def zgf (fl : Nat → Option (Nat × Nat × Nat)) (k : zP) (pc : Nat) (ws : zS) (lv : zL) (st : List Value) (idx : Nat) : Prop := match fl idx, st with
  | some (ci, j, _), .ref a :: r => (match ws[a]? with
    | some (.inr (.inr (c', fs))) => (match Nat.beq c' ci, fs[j]? with
      | true, some v => k (pc + 3) ws lv (v :: r)
      | _, _ => False)
    | _ => False)
  | _, _ => False
def zpf (fl : Nat → Option (Nat × Nat × Nat)) (k : zP) (pc : Nat) (ws : zS) (lv : zL) (st : List Value) (idx : Nat) : Prop := match fl idx, st with
  | some (ci, j, kd), .int x :: .ref a :: r => (match ws[a]? with
    | some (.inr (.inr (c', fs))) => (match Nat.beq c' ci, Nat.blt j fs.length, kd with
      | true, true, 0 => k (pc + 3) (ws.set a (.inr (.inr (ci, fs.set j (.int x))))) lv r
      | true, true, 1 => (x = 0 ∨ x = 1) ∧ k (pc + 3) (ws.set a (.inr (.inr (ci, fs.set j (.int x))))) lv r
      | _, _, _ => False)
    | _ => False)
  | _, _ => False
def zia (k : zP) (pc : Nat) (ws : zS) (lv : zL) (st : List Value) (kd : Nat) : Prop := match st with
  | .int i :: .ref a :: r => (match ws[a]? with
    | some (.inl (k', n, f)) => (match Nat.beq k' kd, Nat.blt n 2147483648 with
      | true, true => ∃ j : Nat, i = nI j ∧ j < n ∧ k (pc + 1) ws lv (.int (f j) :: r)
      | _, _ => False)
    | _ => False)
  | _ => False
def zis (k : zP) (pc : Nat) (ws : zS) (lv : zL) (st : List Value) (kd : Nat) : Prop := match st with
  | .int x :: .int i :: .ref a :: r => (match ws[a]? with
    | some (.inl (k', n, f)) => (match Nat.beq k' kd, Nat.blt n 2147483648 with
      | true, true => ∃ j : Nat, i = nI j ∧ j < n ∧ k (pc + 1) (ws.set a (.inl (kd, n, upd f j (match kd with
        | 0 => x
        | _ => vp_nar .boolean x)))) lv r
      | _, _ => False)
    | _ => False)
  | _ => False
def zal (k : zP) (pc : Nat) (ws : zS) (lv : zL) (st : List Value) : Prop := match st with
  | .ref a :: r => (match ws[a]? with
    | some (.inl (_, n, _)) => k (pc + 1) ws lv (.int (nI n) :: r)
    | some (.inr (.inl (n, _))) => k (pc + 1) ws lv (.int (nI n) :: r)
    | _ => False)
  | _ => False
def zb2 (a b : Prop) (kt kf : Prop) : Prop := (a → kt) ∧ (b → kf)
def zts (k : Nat → Prop) (pc : Nat) (x : Int32) : Int → List Int → Prop
  | _, [] => True
  | lo, o :: r => (x = zi lo → k (zt pc o)) ∧ zts k pc x (lo + 1) r
def zls (k : Nat → Prop) (pc : Nat) (x : Int32) : List (Int × Int) → Prop
  | [] => True
  | (a, o) :: r => (x = zi a → k (zt pc o)) ∧ zls k pc x r
def zln (x : Int32) : List (Int × Int) → Prop
  | [] => True
  | (a, _) :: r => ¬ x = zi a ∧ zln x r
def zstp (fl : Nat → Option (Nat × Nat × Nat)) (ki : Nat → Option Int32) (kj : Nat → Option Int64) (K : zP) (Kr : zS → Option Value → Prop) (k : zP) (i : Instr) (pc : Nat) (ws : zS) (lv : zL) (st : List Value) : Prop := match i with
  | .aconst_null => k (pc + 1) ws lv (.null :: st)
  | .aload n => zald k (pc + 2) ws lv st n
  | .aload_n n => zald k (pc + 1) ws lv st n.val
  | .iload n => zild k (pc + 2) ws lv st n
  | .iload_n n => zild k (pc + 1) ws lv st n.val
  | .lload n => zlld k (pc + 2) ws lv st n
  | .lload_n n => zlld k (pc + 1) ws lv st n.val
  | .istore n => zist k (pc + 2) ws lv st n
  | .istore_n n => zist k (pc + 1) ws lv st n.val
  | .astore n => zast k (pc + 2) ws lv st n
  | .astore_n n => zast k (pc + 1) ws lv st n.val
  | .iinc n d => zinc k (pc + 3) ws lv st n d
  | .iconst n => k (pc + 1) ws lv (.int (zi n) :: st)
  | .bipush n => k (pc + 2) ws lv (.int (zi n) :: st)
  | .sipush n => k (pc + 3) ws lv (.int (zi n) :: st)
  | .lconst n => k (pc + 1) ws lv (.long (lN n.val) :: st)
  | .ldc idx => (match ki idx with
    | some v => k (pc + 2) ws lv (.int v :: st)
    | none => False)
  | .ldc2_w idx => (match kj idx with
    | some v => k (pc + 3) ws lv (.long v :: st)
    | none => False)
  | .iadd => zI2 st fun x y r => k (pc + 1) ws lv (.int (x + y) :: r)
  | .isub => zI2 st fun x y r => k (pc + 1) ws lv (.int (x - y) :: r)
  | .imul => zI2 st fun x y r => k (pc + 1) ws lv (.int (x * y) :: r)
  | .iand => zI2 st fun x y r => k (pc + 1) ws lv (.int (x &&& y) :: r)
  | .ior => zI2 st fun x y r => k (pc + 1) ws lv (.int (x ||| y) :: r)
  | .ixor => zI2 st fun x y r => k (pc + 1) ws lv (.int (x ^^^ y) :: r)
  | .idiv => zI2 st fun x y r => ¬ y = 0 ∧ k (pc + 1) ws lv (.int (x / y) :: r)
  | .irem => zI2 st fun x y r => ¬ y = 0 ∧ k (pc + 1) ws lv (.int (x - x / y * y) :: r)
  | .ineg => zI1 st fun x r => k (pc + 1) ws lv (.int (-x) :: r)
  | .ishl => zI2 st fun x y r => k (pc + 1) ws lv (.int (x <<< (y &&& 31)) :: r)
  | .ishr => zI2 st fun x y r => k (pc + 1) ws lv (.int (x >>> (y &&& 31)) :: r)
  | .i2l => zI1 st fun x r => k (pc + 1) ws lv (.long x.toInt64 :: r)
  | .l2i => zJ1 st fun x r => k (pc + 1) ws lv (.int x.toInt32 :: r)
  | .i2c => zI1 st fun x r => k (pc + 1) ws lv (.int (x.toUInt32 % 65536).toInt32 :: r)
  | .land => zJ2 st fun x y r => k (pc + 1) ws lv (.long (x &&& y) :: r)
  | .lor => zJ2 st fun x y r => k (pc + 1) ws lv (.long (x ||| y) :: r)
  | .lcmp => zJ2 st fun x y r => k (pc + 1) ws lv (.int (lg_cmp x y) :: r)
  | .lshl => zJI st fun x y r => k (pc + 1) ws lv (.long (x <<< (y.toInt64 &&& 63)) :: r)
  | .lshr => zJI st fun x y r => k (pc + 1) ws lv (.long (x >>> (y.toInt64 &&& 63)) :: r)
  | .lushr => zJI st fun x y r => k (pc + 1) ws lv (.long (x.toUInt64 >>> (y.toInt64.toUInt64 &&& Int64.toUInt64 63)).toInt64 :: r)
  | .dup => (match st with
    | v :: r => (match zc1 v with
      | true => k (pc + 1) ws lv (v :: v :: r)
      | false => False)
    | _ => False)
  | .pop => (match st with
    | v :: r => (match zc1 v with
      | true => k (pc + 1) ws lv r
      | false => False)
    | _ => False)
  | .dup_x1 => (match st with
    | v :: w :: r => (match zc1 v, zc1 w with
      | true, true => k (pc + 1) ws lv (v :: w :: v :: r)
      | _, _ => False)
    | _ => False)
  | .dup2 => (match st with
    | v :: w :: r => (match zc1 v, zc1 w with
      | true, true => k (pc + 1) ws lv (v :: w :: v :: w :: r)
      | _, _ => False)
    | _ => False)
  | .goto o => k (zt pc o) ws lv st
  | .ifnull o => (match st with
    | .ref _ :: r => k (pc + 3) ws lv r
    | .null :: r => k (zt pc o) ws lv r
    | _ => False)
  | .ifnonnull o => (match st with
    | .ref _ :: r => k (zt pc o) ws lv r
    | .null :: r => k (pc + 3) ws lv r
    | _ => False)
  | .ifCond .eq o => zI1 st fun x r => (x = 0 → k (zt pc o) ws lv r) ∧ (¬ x = 0 → k (pc + 3) ws lv r)
  | .ifCond .ne o => zI1 st fun x r => (¬ x = 0 → k (zt pc o) ws lv r) ∧ (x = 0 → k (pc + 3) ws lv r)
  | .ifCond .lt o => zI1 st fun x r => (x < 0 → k (zt pc o) ws lv r) ∧ (¬ x < 0 → k (pc + 3) ws lv r)
  | .ifCond .ge o => zI1 st fun x r => (0 ≤ x → k (zt pc o) ws lv r) ∧ (¬ 0 ≤ x → k (pc + 3) ws lv r)
  | .ifCond .gt o => zI1 st fun x r => (0 < x → k (zt pc o) ws lv r) ∧ (¬ 0 < x → k (pc + 3) ws lv r)
  | .ifCond .le o => zI1 st fun x r => (x ≤ 0 → k (zt pc o) ws lv r) ∧ (¬ x ≤ 0 → k (pc + 3) ws lv r)
  | .if_icmp .eq o => zI2 st fun x y r => (x = y → k (zt pc o) ws lv r) ∧ (¬ x = y → k (pc + 3) ws lv r)
  | .if_icmp .ne o => zI2 st fun x y r => (¬ x = y → k (zt pc o) ws lv r) ∧ (x = y → k (pc + 3) ws lv r)
  | .if_icmp .lt o => zI2 st fun x y r => (x < y → k (zt pc o) ws lv r) ∧ (¬ x < y → k (pc + 3) ws lv r)
  | .if_icmp .ge o => zI2 st fun x y r => (y ≤ x → k (zt pc o) ws lv r) ∧ (¬ y ≤ x → k (pc + 3) ws lv r)
  | .if_icmp .gt o => zI2 st fun x y r => (y < x → k (zt pc o) ws lv r) ∧ (¬ y < x → k (pc + 3) ws lv r)
  | .if_icmp .le o => zI2 st fun x y r => (x ≤ y → k (zt pc o) ws lv r) ∧ (¬ x ≤ y → k (pc + 3) ws lv r)
  | .tableswitch d lo hi offs => zI1 st fun x r => zts (fun t => k t ws lv r) pc x lo offs.toList ∧ ((x.toInt < lo ∨ hi < x.toInt) → k (zt pc d) ws lv r)
  | .lookupswitch d ps => zI1 st fun x r => zls (fun t => k t ws lv r) pc x ps.toList ∧ (zln x ps.toList → k (zt pc d) ws lv r)
  | .getfield idx => zgf fl k pc ws lv st idx
  | .putfield idx => zpf fl k pc ws lv st idx
  | .iaload => zia k pc ws lv st 0
  | .iastore => zis k pc ws lv st 0
  | .baload => zia k pc ws lv st 1
  | .bastore => zis k pc ws lv st 1
  | .arraylength => zal k pc ws lv st
  | .ireturn => (match st with
    | [.int v] => Kr ws (some (.int v))
    | _ => False)
  | .areturn => (match st with
    | [.ref a] => Kr ws (some (.ref a))
    | [.null] => Kr ws (some .null)
    | _ => False)
  | .return_ => (match st with
    | [] => Kr ws none
    | _ => False)
  | _ => K pc ws lv st
def zfd : List (Nat × Instr) → Nat → Option Instr
  | [], _ => none
  | (p, i) :: r, pc => match Nat.beq p pc with
    | true => some i
    | false => zfd r pc
def zme (pc : Nat) : List Nat → Bool
  | [] => false
  | p :: r => match Nat.beq p pc with
    | true => true
    | false => zme pc r
def zgo (tab : List (Nat × Instr)) (fl : Nat → Option (Nat × Nat × Nat)) (ki : Nat → Option Int32) (kj : Nat → Option Int64) (stops : List Nat) (K : zP) (Kr : zS → Option Value → Prop) : Nat → zP
  | 0, pc, ws, lv, st => K pc ws lv st
  | n + 1, pc, ws, lv, st => match zfd tab pc with
    | some i => zstp fl ki kj K Kr (fun pc ws lv st => match zme pc stops with
      | true => K pc ws lv st
      | false => zgo tab fl ki kj stops K Kr n pc ws lv st) i pc ws lv st
    | none => False
/-! what a table of a method's code must keep -/
def zlen : Instr → Nat
  | .aload _ => 2 | .iload _ => 2 | .lload _ => 2 | .istore _ => 2 | .astore _ => 2 | .iinc _ _ => 3 | .bipush _ => 2 | .sipush _ => 3 | .ldc _ => 2 | .ldc2_w _ => 3
  | .goto _ => 3 | .ifnull _ => 3 | .ifnonnull _ => 3 | .ifCond _ _ => 3 | .if_icmp _ _ => 3 | .getfield _ => 3 | .putfield _ => 3
  | .invokevirtual _ => 3 | .invokespecial _ => 3 | .invokestatic _ => 3 | .new _ => 3 | .anewarray _ => 3 | .newarray _ => 2
  | _ => 1
def ztok (pc : Nat) (o : Int) : Bool := decide ((pc : Int) + o = (zt pc o : Int))
def zokI (pc : Nat) : Instr → Bool
  | .iconst n => decide (Int32.ofInt n = zi n)
  | .bipush n => decide ((Int8.ofInt n).toInt32 = zi n)
  | .sipush n => decide ((Int16.ofInt n).toInt32 = zi n)
  | .iinc _ n => decide (Int32.ofInt n = zi n)
  | .goto o => ztok pc o | .ifnull o => ztok pc o | .ifnonnull o => ztok pc o | .ifCond _ o => ztok pc o | .if_icmp _ o => ztok pc o
  | .tableswitch d lo hi offs => ztok pc d && decide (hi + 1 = lo + offs.toList.length) && offs.toList.all (ztok pc) && (List.range offs.toList.length).all (fun j => decide ((zi (lo + j)).toInt = lo + j))
  | .lookupswitch d ps => ztok pc d && ps.toList.all (fun e => ztok pc e.2 && decide ((zi e.1).toInt = e.1)) && (ps.toList.zip (ps.toList.drop 1)).all (fun (a, next) => a.1 < next.1)
  | _ => true
def zisw : Instr → Bool
  | .tableswitch _ _ _ _ => true
  | .lookupswitch _ _ => true
  | _ => false
def zokE (cc : ByteArray) (e : Nat × Instr) : Bool := (match decode cc e.1 with
  | .ok (i, l) => decide (i = e.2) && (zisw i || Nat.beq l (zlen i))
  | .error _ => false) && zokI e.1 e.2
def zokC (cc : ByteArray) (tab : List (Nat × Instr)) : Bool := tab.all (zokE cc)
theorem zfd_mem : ∀ {tab : List (Nat × Instr)} {pc : Nat} {i : Instr}, zfd tab pc = some i → (pc, i) ∈ tab
  | [], pc, i, h => by simp [zfd] at h
  | (p, j) :: r, pc, i, h => by
    unfold zfd at h
    by_cases hp : Nat.beq p pc = true
    · rw [hp] at h
      cases h
      rw [Nat.eq_of_beq_eq_true hp]
      exact List.mem_cons_self
    · rw [Bool.not_eq_true] at hp
      rw [hp] at h
      exact List.mem_cons_of_mem _ (zfd_mem h)
theorem zokC_at {cc : ByteArray} {tab : List (Nat × Instr)} (h : zokC cc tab = true) {pc : Nat} {i : Instr} (hf : zfd tab pc = some i) : (∃ l, decode cc pc = .ok (i, l) ∧ (zisw i = true ∨ l = zlen i)) ∧ zokI pc i = true := by
  have h1 := List.all_eq_true.mp h _ (zfd_mem hf)
  unfold zokE at h1
  rw [Bool.and_eq_true] at h1
  refine ⟨?_, h1.2⟩
  have h2 := h1.1
  revert h2
  generalize hd : decode cc pc = d
  intro h2
  match d, h2 with
  | .ok (j, l), h2 =>
    rw [Bool.and_eq_true, decide_eq_true_eq, Bool.or_eq_true] at h2
    obtain ⟨e, h3⟩ := h2
    have e : j = i := e
    subst e
    exact ⟨l, rfl, h3.imp id (fun h => Nat.eq_of_beq_eq_true h)⟩
  | .error _, h2 => exact absurd h2 (by simp)
