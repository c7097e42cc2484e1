/-! how one chooses -/
def sb (x : Int32) (o : Nat) : Bool := decide (¬ (x &&& (nI 1 <<< (nI o &&& 31))) = 0)
def bsn (see : Nat → Bool) (br : Nat → Int32) (p : Nat) : Nat → Nat
  | 0 => p
  | k + 1 => if see k = true ∧ br (bsn see br p k) < br k then k else bsn see br p k
theorem bsn_lt {see : Nat → Bool} {br : Nat → Int32} {p n : Nat} (hp : p < n) : ∀ k, k ≤ n → bsn see br p k < n
  | 0, _ => hp
  | k + 1, h => by unfold bsn; split <;> first | omega | exact bsn_lt hp k (by omega)
def msn (c : Nat → Nat) (s0 : Nat) : Nat → Nat
  | 0 => s0
  | k + 1 => if c (msn c s0 k) < c k then k else msn c s0 k
theorem msn_lt {c : Nat → Nat} {s0 n : Nat} (hp : s0 < n) : ∀ k, k ≤ n → msn c s0 k < n
  | 0, _ => hp
  | k + 1, h => by unfold msn; split <;> first | omega | exact msn_lt hp k (by omega)
def nrl (see : Nat → Bool) (p : Nat) : Nat → Nat
  | 0 => p
  | k + 1 => if see k = true then k else nrl see p k
theorem nrl_lt {see : Nat → Bool} {p n : Nat} (hp : p < n) : ∀ k, k ≤ n → nrl see p k < n
  | 0, _ => hp
  | k + 1, h => by unfold nrl; split <;> first | omega | exact nrl_lt hp k (by omega)
def nrb (see : Nat → Bool) (p : Nat) : Nat → Option Nat
  | 0 => none
  | k + 1 => if see k = true ∧ k < p then some k else nrb see p k
theorem nrb_lt {see : Nat → Bool} {p : Nat} : ∀ k j, nrb see p k = some j → j < p
  | 0, j, h => by simp [nrb] at h
  | k + 1, j, h => by
    unfold nrb at h
    split at h
    · cases h; rename_i h2; exact h2.2
    · exact nrb_lt k j h
def nrI : Option Nat → Int32
  | none => zi (-1)
  | some j => nI j
def cho (n W y : Nat) (v : Nat → Nat) (see : Nat → Bool) (br : Nat → Int32) (p : Nat) (sg : Int32) (K : Nat) : Nat :=
  if sg = nI 98 then v (bsn see br p n)
  else if sg = nI 109 then msn (fun w => cnt (fun o => see o && decide (v o = w)) n) (v p) W
  else if sg = nI 110 then v (match nrb see p n with
    | some j => j
    | none => nrl see p n)
  else if sg = nI 116 then (if 0 < K ∧ y % K = 0 then (if v p + 1 < W then v p + 1 else 0) else v p)
  else v p
theorem cho_lt {n W y : Nat} {v : Nat → Nat} {see : Nat → Bool} {br : Nat → Int32} {p : Nat} {sg : Int32} {K : Nat} (hW : W ≤ 6) (hv : ∀ j, v j < 6) : cho n W y v see br p sg K < 6 := by
  unfold cho
  split
  · exact hv _
  · split
    · exact msn_lt (hv p) W hW
    · split
      · exact hv _
      · split
        · split
          · split <;> omega
          · exact hv _
        · exact hv _
def smp (RL : List zRu) (x : Int32) : Nat → Nat → Nat
  | 0, r => r
  | d + 1, r => match RL[r]? with
    | some (_, k, some a, some b) => smp RL x d (if x < k then a else b)
    | _ => r
/-- the rules' parts are rules -/
def wfR (RL : List zRu) : Prop := ∀ (i : Nat) (u : zRu), RL[i]? = some u → (∀ a, u.2.2.1 = some a → a < RL.length) ∧ (∀ a, u.2.2.2 = some a → a < RL.length)
theorem smp_lt {RL : List zRu} (hR : wfR RL) {x : Int32} : ∀ d r, r < RL.length → smp RL x d r < RL.length
  | 0, r, h => h
  | d + 1, r, h => by
    unfold smp
    split
    · rename_i s k a b hu
      have := hR r _ hu
      split
      · exact smp_lt hR d a (this.1 a rfl)
      · exact smp_lt hR d b (this.2 b rfl)
    · exact h
theorem zpl_same {σ : Nat → Nat} {ws wc : zS} (h : zsb σ ws wc) : zpl σ ws wc.length wc ws := ⟨rfl, h.1, fun _ _ => rfl⟩
theorem pol_shift (RB b : Nat) (RL : List zRu) (k : Nat) (x : zE) (h : (pol b RL)[k]? = some x) : (pol (b + RB) RL)[k]? = some (zr (fun i => i + RB) x) := by
  rw [pol_at] at h ⊢
  obtain ⟨u, hu, rfl⟩ := Option.map_eq_some_iff.mp h
  rw [hu]
  obtain ⟨s, n, o1, o2⟩ := u
  simp only [Option.map_some, zr, List.map_cons, List.map_nil]
  congr 4
  cases o1 <;> cases o2 <;> simp [zv, va_rf, Nat.add_assoc]
theorem zsb_pol {pre : zS} {RB : Nat} (RL : List zRu) (h : pre.length = RB) : zsb (fun i => i + RB) (pre ++ pol RB RL) (pol 0 RL) := ⟨fun k x hx => by
  show (pre ++ pol RB RL)[k + RB]? = _
  rw [List.getElem?_append_right (by omega), h, Nat.add_sub_cancel]
  have := pol_shift RB 0 RL k x hx
  rwa [Nat.zero_add] at this, fun i j _ _ h => by
  have h : i + RB = j + RB := h
  omega⟩
section CHO
variable {l : Launch} {D : va_G} {C : zC} {RB : Nat} {I : zI} {RL : List zRu}
set_option maxRecDepth 10000 in
theorem c_simpleFor (hR : wfR RL) {r : Nat} {x : Int32} (hr : r < RL.length) : zFun l D C yX2_simpleFor cX2_simpleFor 4 (some (.object RX2)) (zR 0) [.ref r, .int x] (pol 0 RL) (fun w' rv => w' = pol 0 RL ∧ rv = some (.ref (smp RL x 4 r))) := by
  refine zFun_of (by decide) oX2_simpleFor tbX2 (Nat.le_of_ble_eq_true rfl) (fun Z o => ?_)
  have loop : ∀ j k a, k + j = 4 → a < RL.length → smp RL x j a = smp RL x 4 r → Z 4 (pol 0 RL) [some (.ref r), some (.int x), some (.ref a), some (.int (nI k))] [] := by
    intro j
    induction j with
    | zero =>
      intro k a hk ha hs
      obtain rfl : k = 4 := by omega
      refine o.run 100 [] ⟨fun _ => ⟨⟨_, rfl⟩, rfl, rfl, ?_⟩, fun h => absurd (by decide) h⟩
      rw [← hs]; rfl
    | succ j ih =>
      intro k a hk ha hs
      have h4 : ¬ nI 4 ≤ nI k := nI_ge (by omega) (by omega)
      refine o.run 100 [10] ⟨fun h => absurd h h4, fun _ => ?_⟩
      show Z _ _ _ _
      obtain ⟨⟨s, kk, o1, o2⟩, hu⟩ : ∃ u, RL[a]? = some u := ⟨_, List.getElem?_eq_getElem ha⟩
      have hc : (pol 0 RL)[a]? = some (.inr (.inr (2, [.int s, .int kk, va_rf (o1.map (fun i => i + 0)), va_rf (o2.map (fun i => i + 0))]))) := by rw [pol_at, hu]; rfl
      have hwf := hR a _ hu
      have fin : (∀ a1 b1, ¬ (o1 = some a1 ∧ o2 = some b1)) → smp RL x 4 r = a := fun hno => by
        rw [← hs, smp, hu]
        cases o1 with
        | none => rfl
        | some a1 => cases o2 with
          | none => rfl
          | some b1 => exact absurd ⟨rfl, rfl⟩ (hno a1 b1)
      refine o.gf (ci := 2) (j := 2) (kd := 2) rfl hc rfl ?_
      cases o1 with
      | none => exact o.run 100 [] ⟨⟨_, rfl⟩, rfl, rfl, by rw [fin (by simp)]⟩
      | some a1 =>
        refine o.run 100 [17] ?_
        show Z _ _ _ _
        refine o.gf (ci := 2) (j := 3) (kd := 2) rfl hc rfl ?_
        cases o2 with
        | none => exact o.run 100 [] ⟨⟨_, rfl⟩, rfl, rfl, by rw [fin (by simp)]⟩
        | some b1 =>
          have hs2 : smp RL x j (if x < kk then a1 else b1) = smp RL x 4 r := by rw [← hs, smp, hu]
          refine o.run 100 [25] ?_
          show Z _ _ _ _
          refine o.gf (ci := 2) (j := 1) (kd := 2) rfl hc rfl ?_
          refine o.run 100 [32, 39] ⟨fun h => ?_, fun h => ?_⟩
          · show Z _ _ _ _
            refine o.gf (ci := 2) (j := 3) (kd := 2) rfl hc rfl ?_
            refine o.run 100 [4] ?_
            rw [if_neg (Int32.not_lt.mpr h)] at hs2
            have := ih (k + 1) b1 (by omega) (hwf.2 b1 rfl) hs2
            rw [← nI_1 k] at this
            exact this
          · show Z _ _ _ _
            refine o.gf (ci := 2) (j := 2) (kd := 2) rfl hc rfl ?_
            refine o.run 100 [4] ?_
            rw [if_pos (Int32.not_le.mp h)] at hs2
            have := ih (k + 1) a1 (by omega) (hwf.1 a1 rfl) hs2
            rw [← nI_1 k] at this
            exact this
  exact o.run 100 [4] (loop 4 0 r rfl hr rfl)
set_option maxRecDepth 10000 in
theorem c_bestSeen {n p : Nat} {v : Nat → Nat} (hn : n ≤ 8) (hp : p < n) (e4 : I.1 4 = nI n) : zFun l D C yX0_bestSeen cX0_bestSeen 4 (some .int) (zR 0) [.ref 0, .int (nI p)] (isl 0 RB I) (fun w' rv => w' = isl 0 RB I ∧ rv = some (.int (I.2.1 2 (bsn (sb (I.2.1 7 p)) (I.2.1 6) p n)))) := by
  refine zFun_of (by decide) oX0_bestSeen tbX0 (Nat.le_of_ble_eq_true rfl) (fun Z o => ?_)
  have loop : ∀ j k, k + j = n → Z 4 (isl 0 RB I) [some (.ref 0), some (.int (nI p)), some (.int (nI (bsn (sb (I.2.1 7 p)) (I.2.1 6) p k))), some (.int (nI k))] [] := by
    intro j
    induction j with
    | zero =>
      intro k hk
      obtain rfl : k = n := by omega
      have hb := bsn_lt (see := sb (I.2.1 7 p)) (br := I.2.1 6) hp k (Nat.le_refl _)
      exact o.run 100 [] ⟨fun _ => ⟨_, rfl, by omega, ⟨_, rfl, rfl⟩, rfl, rfl, rfl⟩, fun h => absurd (by rw [e4]; exact nI_le (Nat.le_refl _) (by omega)) h⟩
    | succ j ih =>
      intro k hk
      have hb := bsn_lt (see := sb (I.2.1 7 p)) (br := I.2.1 6) hp k (by omega)
      refine o.run 100 [4] ⟨fun h => absurd h (by rw [e4]; exact nI_ge (by omega) (by omega)), fun _ => ⟨p, rfl, by omega, fun h1 => ?_, fun h1 => ⟨k, rfl, by omega, _, rfl, by omega, fun h2 => ?_, fun h2 => ?_⟩⟩⟩
      · have := ih (k + 1) (by omega)
        have hs : ¬ (sb (I.2.1 7 p) k = true ∧ I.2.1 6 (bsn (sb (I.2.1 7 p)) (I.2.1 6) p k) < I.2.1 6 k) := fun h2 => (of_decide_eq_true h2.1) h1
        rw [bsn, if_neg hs, ← nI_1 k] at this
        exact this
      · have := ih (k + 1) (by omega)
        have hs : ¬ (sb (I.2.1 7 p) k = true ∧ I.2.1 6 (bsn (sb (I.2.1 7 p)) (I.2.1 6) p k) < I.2.1 6 k) := fun h3 => Int32.not_le.mpr h3.2 h2
        rw [bsn, if_neg hs, ← nI_1 k] at this
        exact this
      · have := ih (k + 1) (by omega)
        have hs : (sb (I.2.1 7 p) k = true ∧ I.2.1 6 (bsn (sb (I.2.1 7 p)) (I.2.1 6) p k) < I.2.1 6 k) := ⟨decide_eq_true h1, Int32.not_le.mp h2⟩
        rw [bsn, if_pos hs, ← nI_1 k] at this
        exact this
  exact o.run 100 [4] (loop n 0 (by omega))
set_option maxRecDepth 10000 in
theorem c_nearSeen {n p : Nat} (hn : n ≤ 8) (hp : p < n) (e4 : I.1 4 = nI n) : zFun l D C yX0_nearSeen cX0_nearSeen 5 (some .int) (zR 0) [.ref 0, .int (nI p)] (isl 0 RB I) (fun w' rv => w' = isl 0 RB I ∧ rv = some (.int (I.2.1 2 (match nrb (sb (I.2.1 7 p)) p n with
    | some j => j
    | none => nrl (sb (I.2.1 7 p)) p n)))) := by
  refine zFun_of (by decide) oX0_nearSeen tbX0 (Nat.le_of_ble_eq_true rfl) (fun Z o => ?_)
  have loop : ∀ j k, k + j = n → Z 7 (isl 0 RB I) [some (.ref 0), some (.int (nI p)), some (.int (nI (nrl (sb (I.2.1 7 p)) p k))), some (.int (nrI (nrb (sb (I.2.1 7 p)) p k))), some (.int (nI k))] [] := by
    intro j
    induction j with
    | zero =>
      intro k hk
      obtain rfl : k = n := by omega
      have hb := nrl_lt (see := sb (I.2.1 7 p)) hp k (Nat.le_refl _)
      refine o.run 100 [] ⟨fun _ => ?_, fun h => absurd (by rw [e4]; exact nI_le (Nat.le_refl _) (by omega)) h⟩
      generalize hq : nrb (sb (I.2.1 7 p)) p k = q
      cases q with
      | none =>
        refine ⟨fun _ => ⟨_, rfl, by omega, ⟨_, rfl, rfl⟩, rfl, rfl, ?_⟩, fun h => absurd (by decide) h⟩
        rfl
      | some i =>
        have hi := nrb_lt k i hq
        refine ⟨fun h => absurd h (nI_pos (by omega)), fun _ => ⟨i, rfl, by omega, ⟨_, rfl, rfl⟩, rfl, rfl, ?_⟩⟩
        rfl
    | succ j ih =>
      intro k hk
      refine o.run 100 [7] ⟨fun h => absurd h (by rw [e4]; exact nI_ge (by omega) (by omega)), fun _ => ⟨p, rfl, by omega, fun h1 => ?_, fun h1 => ⟨fun h2 => ?_, fun h2 => ?_⟩⟩⟩
      · have := ih (k + 1) (by omega)
        have hs : ¬ (sb (I.2.1 7 p) k = true) := fun h2 => (of_decide_eq_true h2) h1
        rw [nrl, if_neg hs, nrb, if_neg (fun h2 => hs h2.1), ← nI_1 k] at this
        exact this
      · have := ih (k + 1) (by omega)
        have hs : sb (I.2.1 7 p) k = true := decide_eq_true h1
        rw [nI_leI (by omega) (by omega)] at h2
        rw [nrl, if_pos hs, nrb, if_neg (fun h3 => by omega), ← nI_1 k] at this
        exact this
      · have := ih (k + 1) (by omega)
        have hs : sb (I.2.1 7 p) k = true := decide_eq_true h1
        rw [nI_leI (by omega) (by omega)] at h2
        rw [nrl, if_pos hs, nrb, if_pos ⟨hs, by omega⟩, ← nI_1 k] at this
        exact this
  exact o.run 100 [7] (loop n 0 (by omega))
end CHO
