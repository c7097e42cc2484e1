/-! ===== Int32 by its bits: bt x i ===== -/
def bt (x : Int32) (i : Nat) : Bool := x.toBitVec.getLsbD i
theorem b_ext {x y : Int32} (h : ∀ i, i < 32 → bt x i = bt y i) : x = y := Int32.toBitVec_inj.mp (BitVec.eq_of_getLsbD_eq (fun i hi => h i hi))
theorem b_or (x y : Int32) (i : Nat) : bt (x ||| y) i = (bt x i || bt y i) := by unfold bt; rw [Int32.toBitVec_or, BitVec.getLsbD_or]
theorem b_and (x y : Int32) (i : Nat) : bt (x &&& y) i = (bt x i && bt y i) := by unfold bt; rw [Int32.toBitVec_and, BitVec.getLsbD_and]
theorem b_xor (x y : Int32) (i : Nat) : bt (x ^^^ y) i = (bt x i ^^ bt y i) := by unfold bt; rw [Int32.toBitVec_xor, BitVec.getLsbD_xor]
theorem b_big {x : Int32} {i : Nat} (h : 32 ≤ i) : bt x i = false := BitVec.getLsbD_of_ge _ _ h
theorem b_255 (i : Nat) : bt 255 i = decide (i < 8) := by
  rcases Nat.lt_or_ge i 32 with h | h
  · exact (by decide +kernel : ∀ i, i < 32 → bt 255 i = decide (i < 8)) i h
  · rw [b_big h, decide_eq_false (by omega)]
theorem b_m1 : ∀ i, i < 32 → bt (-1) i = true := by decide +kernel
theorem b_0 (i : Nat) : bt 0 i = false := BitVec.getLsbD_zero
theorem s_l : ∀ n, n < 32 → ((nI n &&& 31).toBitVec.smod 32).toNat = n := by decide +kernel
theorem b_shl (n : Nat) (hn : n < 32) (x : Int32) {i : Nat} (hi : i < 32) : bt (x <<< (nI n &&& 31)) i = (decide (n ≤ i) && bt x (i - n)) := by
  unfold bt
  rw [Int32.toBitVec_shiftLeft]
  show (x.toBitVec <<< ((nI n &&& 31).toBitVec.smod 32).toNat).getLsbD i = _
  rw [s_l n hn, BitVec.getLsbD_shiftLeft]
  rcases Nat.lt_or_ge i n with h | h
  · simp [h, Nat.not_le.mpr h]
  · simp [hi, h, Nat.not_lt.mpr h]
theorem b_sshr (n : Nat) (hn : n < 32) (x : Int32) {i : Nat} (hi : i < 32) : bt (x >>> (nI n &&& 31)) i = if n + i < 32 then bt x (n + i) else bt x 31 := by
  unfold bt
  rw [Int32.toBitVec_shiftRight]
  show (x.toBitVec.sshiftRight ((nI n &&& 31).toBitVec.smod 32).toNat).getLsbD i = _
  rw [s_l n hn, BitVec.getLsbD_sshiftRight, BitVec.msb_eq_getLsbD_last]
  simp [hi]
theorem b_1 : ∀ i, i < 32 → bt (nI 1) i = decide (i = 0) := by decide +kernel
theorem b_bit {o i : Nat} (ho : o < 32) (hi : i < 32) : bt (nI 1 <<< (nI o &&& 31)) i = decide (o = i) := by
  rw [b_shl o ho _ hi]
  by_cases h : o ≤ i
  · rw [b_1 _ (by omega)]
    by_cases h2 : o = i
    · subst h2; simp
    · have : ¬ i - o = 0 := by omega
      simp [h2, this]
  · have : ¬ o = i := by omega
    simp [h, this]
theorem sb_bt {x : Int32} {o : Nat} (ho : o < 32) : sb x o = bt x o := by
  unfold sb
  by_cases h : bt x o = true
  · rw [h]
    refine decide_eq_true (fun h0 => ?_)
    have h1 : bt (x &&& (nI 1 <<< (nI o &&& 31))) o = bt 0 o := by rw [h0]
    rw [b_and, b_bit ho ho, h, b_0] at h1
    simp at h1
  · rw [Bool.not_eq_true] at h
    rw [h]
    refine decide_eq_false (fun h0 => h0 (b_ext (fun i hi => ?_)))
    rw [b_and, b_bit ho hi, b_0]
    by_cases h2 : o = i
    · subst h2; rw [h]; rfl
    · simp [h2]
theorem b_c255 (i : Nat) : bt (nI 255) i = decide (i < 8) := b_255 i
theorem b_cm1 {i : Nat} (h : i < 32) : bt (zi (-1)) i = true := (by decide +kernel : ∀ i, i < 32 → bt (zi (-1)) i = true) i h
/-- who sees whom: oneself always; of the others those that aren't hidden, at a show all, else by bits -/
def seeS (sh : Nat) (bl : Nat → Bool) (se : Nat → Int32) (y p o : Nat) : Bool := decide (p = o) || (!bl o && (decide (0 < sh ∧ y % sh = 0) || sb (se p) o))
theorem see_class {sh y p o : Nat} {x hid : Int32} (hp : p < 8) (ho : o < 8) : sb (seB sh y x hid p) o = (decide (p = o) || (!sb hid o && (decide (0 < sh ∧ y % sh = 0) || sb x o))) := by
  rw [sb_bt (by omega), sb_bt (by omega), sb_bt (by omega)]
  unfold seB
  rw [b_or, b_bit (by omega) (by omega), b_and, b_xor, b_cm1 (by omega)]
  by_cases h : 0 < sh ∧ y % sh = 0
  · rw [if_pos h, b_c255, decide_eq_true h]
    cases decide (p = o) <;> cases bt hid o <;> simp [ho]
  · rw [if_neg h, decide_eq_false h]
    cases decide (p = o) <;> cases bt hid o <;> cases bt x o <;> rfl
theorem sb_zero (o : Nat) : sb (nI 0) o = false := by
  unfold sb
  refine decide_eq_false (fun h => h ?_)
  show (nI 0) &&& _ = 0
  rw [nI_0]
  apply b_ext
  intro i _
  rw [b_and, b_0]; rfl
theorem sb_shift {k o : Nat} (hk : k < 8) (ho : o < 8) : sb (nI 1 <<< (nI k &&& 31)) o = decide (k = o) := by rw [sb_bt (by omega), b_bit (by omega) (by omega)]
/-- the reference's way to ask for a bit -/
theorem sb_ref {x : Int32} {o : Nat} (ho : o < 8) : (((x >>> (nI o &&& 31)) &&& nI 1) = nI 1) ↔ sb x o = true := by
  rw [sb_bt (by omega)]
  constructor
  · intro h
    have h1 : bt ((x >>> (nI o &&& 31)) &&& nI 1) 0 = bt (nI 1) 0 := by rw [h]
    rw [b_and, b_1 0 (by omega), b_sshr o (by omega) x (by omega), if_pos (by omega)] at h1
    simpa using h1
  · intro h
    apply b_ext
    intro i hi
    rw [b_and, b_1 i hi]
    by_cases h0 : i = 0
    · subst h0
      rw [b_sshr o (by omega) x (by omega), if_pos (by omega), Nat.add_zero, h]; rfl
    · simp [h0]
-- the choice depends on what is seen among the n alone
theorem bsn_see {s1 s2 : Nat → Bool} {br : Nat → Int32} {p n : Nat} (h : ∀ o, o < n → s1 o = s2 o) : ∀ k, k ≤ n → bsn s1 br p k = bsn s2 br p k
  | 0, _ => rfl
  | k + 1, hk => by unfold bsn; rw [bsn_see h k (by omega), h k (by omega)]
theorem cnt_congr {f g : Nat → Bool} : ∀ (n : Nat), (∀ o, o < n → f o = g o) → cnt f n = cnt g n
  | 0, _ => rfl
  | n + 1, h => by unfold cnt; rw [cnt_congr n (fun o ho => h o (by omega)), h n (by omega)]
theorem nrb_see {s1 s2 : Nat → Bool} {p n : Nat} (h : ∀ o, o < n → s1 o = s2 o) : ∀ k, k ≤ n → nrb s1 p k = nrb s2 p k
  | 0, _ => rfl
  | k + 1, hk => by unfold nrb; rw [nrb_see h k (by omega), h k (by omega)]
theorem nrl_see {s1 s2 : Nat → Bool} {p n : Nat} (h : ∀ o, o < n → s1 o = s2 o) : ∀ k, k ≤ n → nrl s1 p k = nrl s2 p k
  | 0, _ => rfl
  | k + 1, hk => by unfold nrl; rw [nrl_see h k (by omega), h k (by omega)]
theorem cho_see {n W y : Nat} {v : Nat → Nat} {s1 s2 : Nat → Bool} {br : Nat → Int32} {p : Nat} {sg : Int32} {K : Nat} (h : ∀ o, o < n → s1 o = s2 o) : cho n W y v s1 br p sg K = cho n W y v s2 br p sg K := by
  unfold cho
  rw [bsn_see h n (Nat.le_refl n), nrb_see h n (Nat.le_refl n), nrl_see h n (Nat.le_refl n)]
  have : (fun w => cnt (fun o => s1 o && decide (v o = w)) n) = (fun w => cnt (fun o => s2 o && decide (v o = w)) n) := by
    funext w
    exact cnt_congr n (fun o ho => by rw [h o ho])
  rw [this]
theorem vat_congr {n W : Nat} {b : Nat → Int32} {s1 s2 : Nat → Nat → Nat → Bool} {d1 d2 : Nat → Int32 → Int32 × Nat} {t1 t2 : Nat → Nat} {y0 : Nat} {v : Nat → Nat} (hs : ∀ y p o, p < n → o < n → s1 y p o = s2 y p o) (hd : ∀ p x, p < n → d1 p x = d2 p x) : ∀ m, (∀ i, i < m → t1 i = t2 i) → vat n W b s1 d1 t1 y0 v m = vat n W b s2 d2 t2 y0 v m
  | 0, _ => rfl
  | m + 1, ht => by
    unfold vat
    rw [vat_congr hs hd m (fun i hi => ht i (by omega)), ht m (by omega)]
    funext p
    unfold yst
    by_cases hp : p < n
    · rw [if_pos hp, if_pos hp, hd p _ hp]
      exact cho_see (fun o ho => hs _ p o hp ho)
    · rw [if_neg hp, if_neg hp]
theorem tot_congr {n : Nat} {b : Nat → Int32} {v1 v2 : Nat → Nat → Nat} {t1 t2 : Nat → Nat} {t0 : Nat → Int32} : ∀ m, (∀ i, i < m → v1 i = v2 i ∧ t1 i = t2 i) → tot n b v1 t1 t0 m = tot n b v2 t2 t0 m
  | 0, _ => rfl
  | m + 1, h => by
    unfold tot
    rw [tot_congr m (fun i hi => h i (by omega)), (h m (by omega)).1, (h m (by omega)).2]
