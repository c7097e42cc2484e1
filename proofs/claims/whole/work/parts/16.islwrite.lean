/-! the island's writing methods -/
section ISW
variable {l : Launch} {D : va_G} {C : zC} {RB : Nat} {I : zI} {RL : List zRu}
set_option maxRecDepth 10000 in
theorem c_isWrong {W n y s0 L : Nat} {sk v : Nat → Nat} (hW : W ≤ 6) (hn : n ≤ 8) (hy : y < 2 ^ 30) (h0 : s0 ≤ y) (hL : 0 < L) (hL2 : L ≤ 24) (e0 : I.1 0 = nI W) (e1 : I.1 1 = nI L) (e2 : I.1 2 = nI s0) (e4 : I.1 4 = nI n) (e5 : I.1 5 = nI y) (ek : ∀ j, I.2.1 1 j = nI (sk j)) (hk : ∀ j, sk j < 4) (ev : ∀ j, I.2.1 2 j = nI (v j)) (hv : ∀ j, v j < 6) :
    zFun l D C yX0_isWrong cX0_isWrong 2 (some .boolean) (zR 2) [.ref 0] (isl 0 RB I) (fun w' rv => w' = isl 0 RB I ∧ rv = some (.int (zB (decide (cnt (fun p => decide (I.2.1 2 p = I.2.1 2 0)) n = n ∧ I.2.1 0 (v 0 * 4 + sk ((y - s0) % L)) < I.2.1 0 (bst (I.2.1 0) (sk ((y - s0) % L)) (W - 1) * 4 + sk ((y - s0) % L))))))) := by
  refine zFun_of (by decide) oX0_isWrong tbX0 (Nat.le_of_ble_eq_true rfl) (fun Z o => ?_)
  let t := sk ((y - s0) % L)
  have fin : ∀ b : Bool, decide (cnt (fun p => decide (I.2.1 2 p = I.2.1 2 0)) n = n ∧ I.2.1 0 (v 0 * 4 + t) < I.2.1 0 (bst (I.2.1 0) t (W - 1) * 4 + t)) = b → zRt (some .boolean) (some (.int (zB b))) ∧ (isl 0 RB I).length = (isl 0 RB I).length ∧ isl 0 RB I = isl 0 RB I ∧ some (Value.int (zB b)) = some (.int (zB (decide (cnt (fun p => decide (I.2.1 2 p = I.2.1 2 0)) n = n ∧ I.2.1 0 (v 0 * 4 + sk ((y - s0) % L)) < I.2.1 0 (bst (I.2.1 0) (sk ((y - s0) % L)) (W - 1) * 4 + sk ((y - s0) % L)))))) := fun b h => ⟨zB_rt b, rfl, rfl, by rw [← h]⟩
  refine o.run 100 [] ?_
  show Z _ _ _ _
  rw [e5]
  refine o.cV vX0_97 (c_weatherOf (y := y) (s0 := s0) (L := L) hy h0 hL hL2 e1 e2) (fun w rv _ hpo => ?_)
  obtain ⟨rfl, rfl⟩ := hpo
  rw [ek]
  refine o.run 100 [] ?_
  show Z _ _ _ _
  refine o.cV vX0_100 (c_isAlike hn e4) (fun w rv _ hpo => ?_)
  obtain ⟨rfl, rfl⟩ := hpo
  refine o.run 100 [] ⟨fun h => ?_, fun h => ⟨0, rfl, by omega, ?_⟩⟩
  · have h := of_decide_eq_false ((zB_0 _).mp h)
    exact fin false (decide_eq_false (fun h2 => h h2.1))
  · have hal : cnt (fun p => decide (I.2.1 2 p = I.2.1 2 0)) n = n := by
      by_cases hq : cnt (fun p => decide (I.2.1 2 p = I.2.1 2 0)) n = n
      · exact hq
      · exact absurd ((zB_0 _).mpr (decide_eq_false hq)) h
    show Z _ _ _ _
    have hb := bst_le (I.2.1 0) t (W - 1)
    rw [ev 0]
    refine o.cV vX0_89 (c_bringsOf (w := v 0) (t := t) (hv 0) (hk _)) (fun w rv _ hpo => ?_)
    obtain ⟨rfl, rfl⟩ := hpo
    refine o.run 100 [] ?_
    show Z _ _ _ _
    refine o.cV (rest := [.ref 0, .int _]) vX0_104 (c_bestIn (W := W) (t := t) hW (hk _) e0) (fun w rv _ hpo => ?_)
    obtain ⟨rfl, rfl⟩ := hpo
    refine o.run 100 [] ?_
    show Z _ _ _ _
    refine o.cV (rest := [.int _]) vX0_89 (c_bringsOf (w := bst (I.2.1 0) t (W - 1)) (t := t) (by omega) (hk _)) (fun w rv _ hpo => ?_)
    obtain ⟨rfl, rfl⟩ := hpo
    refine o.run 100 [] ⟨fun h => ?_, fun h => ?_⟩
    · exact fin false (decide_eq_false (fun h2 => Int32.not_le.mpr h2.2 h))
    · exact fin true (decide_eq_true ⟨hal, Int32.not_le.mp h⟩)
set_option maxRecDepth 10000 in
theorem c_liveInParts {n k : Nat} {a b : Int32} (hn : n ≤ 8) (hk : k < 2 ^ 30) (e4 : I.1 4 = nI n) : zFun l D C yX0_liveInParts cX0_liveInParts 5 none (zR 0) [.ref 0, .int a, .int b, .int (nI k)] (isl 0 RB I) (fun w' rv => w' = isl 0 RB (setA I 3 (mix n (fun p => if p < k then a else b) (I.2.1 3))) ∧ rv = none) := by
  refine zFun_of (by decide) oX0_liveInParts tbX0 (Nat.le_of_ble_eq_true rfl) (fun Z o => ?_)
  let g : Nat → Int32 := fun p => if p < k then a else b
  have loop : ∀ j i, i + j = n → Z 3 (isl 0 RB (setA I 3 (mix i g (I.2.1 3)))) [some (.ref 0), some (.int a), some (.int b), some (.int (nI k)), some (.int (nI i))] [] := by
    intro j
    induction j with
    | zero =>
      intro i hi
      obtain rfl : i = n := by omega
      exact o.run 100 [] ⟨fun _ => ⟨rfl, rfl, rfl, rfl⟩, fun h => absurd (by show I.1 4 ≤ _; rw [e4]; exact nI_le (Nat.le_refl _) (by omega)) h⟩
    | succ j ih =>
      intro i hi
      refine o.run 100 [3] ⟨fun h => absurd h (by show ¬ I.1 4 ≤ _; rw [e4]; exact nI_ge (by omega) (by omega)), fun _ => ⟨fun h => ⟨i, rfl, by omega, ?_⟩, fun h => ⟨i, rfl, by omega, ?_⟩⟩⟩
      · rw [nI_leI (by omega) (by omega)] at h
        have := ih (i + 1) (by omega)
        have eg : g i = b := if_neg (by omega)
        rw [← mix_upd, eg, ← nI_1 i] at this
        exact this
      · rw [nI_leI (by omega) (by omega)] at h
        have := ih (i + 1) (by omega)
        have eg : g i = a := if_pos (by omega)
        rw [← mix_upd, eg, ← nI_1 i] at this
        exact this
  have := loop n 0 (by omega)
  rw [mix_0] at this
  exact o.run 100 [3] this
def tsk (L k : Nat) (x y : Int32) (f : Nat → Int32) : Nat → Int32 := fun j => if j < k then x else if L ≤ j ∧ j < L + k then y else f j
set_option maxRecDepth 10000 in
theorem c_turnSky {L : Nat} {x y : Int32} (hL : L ≤ 12) : zFun l D C yX0_turnSky cX0_turnSky 5 none (zR 0) [.ref 0, .int (nI L), .int x, .int y] (isl 0 RB I) (fun w' rv => w' = isl 0 RB (setS (setS (setA I 1 (tsk L L x y (I.2.1 1))) 1 (nI (2 * L))) 2 (I.1 5)) ∧ rv = none) := by
  refine zFun_of (by decide) oX0_turnSky tbX0 (Nat.le_of_ble_eq_true rfl) (fun Z o => ?_)
  have loop : ∀ j k, k + j = L → Z 3 (isl 0 RB (setA I 1 (tsk L k x y (I.2.1 1)))) [some (.ref 0), some (.int (nI L)), some (.int x), some (.int y), some (.int (nI k))] [] := by
    intro j
    induction j with
    | zero =>
      intro k hk
      obtain rfl : k = L := by omega
      refine o.run 100 [] ⟨fun _ => ⟨rfl, rfl, ?_, rfl⟩, fun h => absurd (nI_le (Nat.le_refl _) (by omega)) h⟩
      have e : nI 2 * nI k = nI (2 * k) := pk_mul 2 k
      rw [← e]
      rfl
    | succ j ih =>
      intro k hk
      have e : nI L + nI k = nI (L + k) := nI_add L k
      refine o.run 100 [3] ⟨fun h => absurd h (nI_ge (by omega) (by omega)), fun _ => ⟨k, rfl, by omega, L + k, e, by omega, ?_⟩⟩
      have := ih (k + 1) (by omega)
      have e2 : tsk L (k + 1) x y (I.2.1 1) = upd (upd (tsk L k x y (I.2.1 1)) k x) (L + k) y := by
        funext q
        unfold upd tsk
        by_cases h1 : q = L + k
        · subst h1
          rw [if_pos rfl, if_neg (by omega), if_pos (by omega)]
        · rw [if_neg h1]
          by_cases h2 : q = k
          · subst h2; rw [if_pos rfl, if_pos (by omega)]
          · rw [if_neg h2]
            by_cases h3 : q < k
            · rw [if_pos h3, if_pos (by omega)]
            · rw [if_neg h3, if_neg (by omega)]
              by_cases h4 : L ≤ q ∧ q < L + k
              · rw [if_pos h4, if_pos (by omega)]
              · rw [if_neg h4, if_neg (by omega)]
      rw [e2, ← nI_1 k] at this
      exact this
  have := loop L 0 (by omega)
  have e0 : tsk L 0 x y (I.2.1 1) = I.2.1 1 := by
    funext q
    unfold tsk
    rw [if_neg (by omega), if_neg (by omega)]
  rw [e0] at this
  exact o.run 100 [3] this
/-- who is ahead of p by i, gone round among n; the bits of those seen -/
def ahd (n p : Nat) : Nat → Nat
  | 0 => p
  | i + 1 => if 0 < ahd n p i then ahd n p i - 1 else n - 1
theorem ahd_lt {n p : Nat} (hp : p < n) : ∀ i, ahd n p i < n
  | 0 => hp
  | i + 1 => by have := ahd_lt hp i; unfold ahd; split <;> omega
def ahB (n p : Nat) : Nat → Int32
  | 0 => nI 1 <<< (nI p &&& 31)
  | i + 1 => ahB n p i ||| (nI 1 <<< (nI (ahd n p (i + 1)) &&& 31))
set_option maxRecDepth 10000 in
theorem c_seeAhead {n k : Nat} (hn : n ≤ 8) (hk : k ≤ 7) (e4 : I.1 4 = nI n) : zFun l D C yX0_seeAhead cX0_seeAhead 6 none (zR 0) [.ref 0, .int (nI k)] (isl 0 RB I) (fun w' rv => w' = isl 0 RB (setA I 4 (mix n (fun p => ahB n p k) (I.2.1 4))) ∧ rv = none) := by
  refine zFun_of (by decide) oX0_seeAhead tbX0 (Nat.le_of_ble_eq_true rfl) (fun Z o => ?_)
  let g : Nat → Int32 := fun p => ahB n p k
  have outer : ∀ j p, p + j = n → ∀ x3 x4 x5, Z 2 (isl 0 RB (setA I 4 (mix p g (I.2.1 4)))) [some (.ref 0), some (.int (nI k)), some (.int (nI p)), x3, x4, x5] [] := by
    intro j
    induction j with
    | zero =>
      intro p hp x3 x4 x5
      obtain rfl : p = n := by omega
      exact o.run 100 [] ⟨fun _ => ⟨rfl, rfl, rfl, rfl⟩, fun h => absurd (by show I.1 4 ≤ _; rw [e4]; exact nI_le (Nat.le_refl _) (by omega)) h⟩
    | succ j ih =>
      intro p hp x3 x4 x5
      have inner : ∀ jj i, i + jj = k → Z 20 (isl 0 RB (setA I 4 (mix p g (I.2.1 4)))) [some (.ref 0), some (.int (nI k)), some (.int (nI p)), some (.int (ahB n p i)), some (.int (nI (ahd n p i))), some (.int (nI i))] [] := by
        intro jj
        induction jj with
        | zero =>
          intro i hi
          obtain rfl : i = k := by omega
          refine o.run 100 [2] ⟨fun _ => ⟨p, rfl, by omega, ?_⟩, fun h => absurd (nI_le (Nat.le_refl _) (by omega)) h⟩
          have := ih (p + 1) (by omega) (some (.int (ahB n p i))) (some (.int (nI (ahd n p i)))) (some (.int (nI i)))
          rw [← mix_upd, ← nI_1 p] at this
          exact this
        | succ jj ihh =>
          intro i hi
          have ha := ahd_lt (n := n) (p := p) (by omega) i
          refine o.run 100 [20] ⟨fun h => absurd h (nI_ge (by omega) (by omega)), fun _ => ⟨fun h => ?_, fun h => ?_⟩⟩
          · have h0 : ahd n p i = 0 := by
              rcases Nat.eq_zero_or_pos (ahd n p i) with h1 | h1
              · exact h1
              · exact absurd h (nI_nle h1 (by omega))
            have e : I.1 4 - nI 1 = nI (ahd n p (i + 1)) := by
              rw [e4, pk_sub (by omega), ahd, if_neg (by omega)]
            have := ihh (i + 1) (by omega)
            rw [ahB, ← e, ← nI_1 i] at this
            exact this
          · have h0 : 0 < ahd n p i := by
              rcases Nat.eq_zero_or_pos (ahd n p i) with h1 | h1
              · rw [h1] at h; exact absurd (by decide) h
              · exact h1
            have e : nI (ahd n p i) - nI 1 = nI (ahd n p (i + 1)) := by
              rw [pk_sub (by omega)]
              show _ = nI (if 0 < ahd n p i then ahd n p i - 1 else n - 1)
              rw [if_pos h0]
            have := ihh (i + 1) (by omega)
            rw [ahB, ← e, ← nI_1 i] at this
            exact this
      refine o.run 100 [20] ⟨fun h => absurd h (by show ¬ I.1 4 ≤ _; rw [e4]; exact nI_ge (by omega) (by omega)), fun _ => ?_⟩
      exact inner k 0 (by omega)
  have := outer n 0 (by omega) none none none
  rw [mix_0] at this
  exact o.run 100 [2] this
set_option maxRecDepth 10000 in
theorem c_addWay {W : Nat} {a b c d : Int32} (hW : W < 6) (e0 : I.1 0 = nI W) : zFun l D C yX0_addWay cX0_addWay 6 (some .int) (zR 0) [.ref 0, .int a, .int b, .int c, .int d] (isl 0 RB I) (fun w' rv => w' = isl 0 RB (setS (setA I 0 (upd (upd (upd (upd (I.2.1 0) (W * 4) a) (W * 4 + 1) b) (W * 4 + 2) c) (W * 4 + 3) d)) 0 (nI (W + 1))) ∧ rv = some (.int (nI W))) := by
  refine zFun_of (by decide) oX0_addWay tbX0 (Nat.le_of_ble_eq_true rfl) (fun Z o => ?_)
  have e : I.1 0 * nI 4 = nI (W * 4) := by rw [e0, pk_mul]
  refine o.run 100 [] ⟨W * 4, e, by omega, W * 4 + 1, ?_, by omega, W * 4 + 2, ?_, by omega, W * 4 + 3, ?_, by omega, ⟨_, rfl, rfl⟩, rfl, ?_, ?_⟩
  · show I.1 0 * nI 4 + nI 1 = _
    rw [e, nI_add]
  · show I.1 0 * nI 4 + nI 2 = _
    rw [e, nI_add]
  · show I.1 0 * nI 4 + nI 3 = _
    rw [e, nI_add]
  · rw [← nI_1 W, ← e0]; rfl
  · rw [← e0]
set_option maxRecDepth 10000 in
theorem c_addPerson {n : Nat} {a b : Int32} (hn : n < 8) (e4 : I.1 4 = nI n) : zFun l D C yX0_addPerson cX0_addPerson 3 (some .int) (zR 0) [.ref 0, .int a, .int b] (isl 0 RB I) (fun w' rv => w' = isl 0 RB (setS (setA (setA (setA (setA I 2 (upd (I.2.1 2) n a)) 3 (upd (I.2.1 3) n b)) 4 (upd (I.2.1 4) n (nI 255))) 5 (upd (I.2.1 5) n (nI 0))) 4 (nI (n + 1))) ∧ rv = some (.int (nI n))) := by
  refine zFun_of (by decide) oX0_addPerson tbX0 (Nat.le_of_ble_eq_true rfl) (fun Z o => ?_)
  refine o.run 100 [] ⟨n, e4, by omega, n, e4, by omega, n, e4, by omega, n, e4, by omega, ⟨_, rfl, rfl⟩, rfl, ?_, ?_⟩
  · rw [← nI_1 n, ← e4]; rfl
  · rw [← e4]
end ISW
