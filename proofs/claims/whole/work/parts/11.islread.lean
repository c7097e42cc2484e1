/-! the island's reading methods -/
section ISR
variable {l : Launch} {D : va_G} {C : zC} {RB : Nat} {I : zI}
set_option maxRecDepth 10000 in
theorem c_bringsOf {w t : Nat} (hw : w < 6) (ht : t < 4) : zFun l D C yX0_bringsOf cX0_bringsOf 3 (some .int) (zR 0) [.ref 0, .int (nI w), .int (nI t)] (isl 0 RB I) (fun w' rv => w' = isl 0 RB I ∧ rv = some (.int (I.2.1 0 (w * 4 + t)))) := by
  refine zFun_of (by decide) oX0_bringsOf tbX0 (Nat.le_of_ble_eq_true rfl) (fun Z o => ?_)
  refine o.run 100 [] ⟨w * 4 + t, ?_, by omega, ⟨_, rfl, rfl⟩, rfl, rfl, rfl⟩
  show nI w * nI 4 + nI t = _
  rw [pk_mul, nI_add]
set_option maxRecDepth 10000 in
theorem c_weatherOf {y s0 L : Nat} (hy : y < 2 ^ 30) (h0 : s0 ≤ y) (hL : 0 < L) (hL2 : L ≤ 24) (e1 : I.1 1 = nI L) (e2 : I.1 2 = nI s0) : zFun l D C yX0_weatherOf cX0_weatherOf 3 (some .int) (zR 0) [.ref 0, .int (nI y)] (isl 0 RB I) (fun w' rv => w' = isl 0 RB I ∧ rv = some (.int (I.2.1 1 ((y - s0) % L)))) := by
  refine zFun_of (by decide) oX0_weatherOf tbX0 (Nat.le_of_ble_eq_true rfl) (fun Z o => ?_)
  have e3 : nI y - I.1 2 = nI (y - s0) := by rw [e2, pk_sub h0]
  refine o.run 100 [] ⟨fun h => ?_, fun _ => ⟨fun h => ?_, fun _ => ⟨?_, (y - s0) % L, ?_, ?_, ⟨_, rfl, rfl⟩, rfl, rfl, rfl⟩⟩⟩
  · exact absurd h (by rw [e3]; exact nI_pos (by omega))
  · exact absurd h (by rw [e1]; exact nI_nle hL (by omega))
  · rw [e1]; exact nI_ne0 hL (by omega)
  · rw [e1, e3]
    exact pk_rem (by omega) hL (by omega)
  · have := Nat.mod_lt (y - s0) hL; omega
set_option maxRecDepth 10000 in
theorem c_bestIn {W t : Nat} (hW : W ≤ 6) (ht : t < 4) (e0 : I.1 0 = nI W) : zFun l D C yX0_bestIn cX0_bestIn 4 (some .int) (zR 1) [.ref 0, .int (nI t)] (isl 0 RB I) (fun w' rv => w' = isl 0 RB I ∧ rv = some (.int (nI (bst (I.2.1 0) t (W - 1))))) := by
  refine zFun_of (by decide) oX0_bestIn tbX0 (Nat.le_of_ble_eq_true rfl) (fun Z o => ?_)
  have loop : ∀ n k, k + n = W - 1 → Z 4 (isl 0 RB I) [some (.ref 0), some (.int (nI t)), some (.int (nI (bst (I.2.1 0) t k))), some (.int (nI (k + 1)))] [] := by
    intro n
    induction n with
    | zero =>
      intro k hk
      refine o.run 100 [] ⟨fun h => ?_, fun h => ?_⟩
      · obtain rfl : k = W - 1 := by omega
        exact ⟨⟨_, rfl, rfl⟩, rfl, rfl, rfl⟩
      · exact absurd (by rw [e0]; exact nI_le (by omega) (by omega)) h
    | succ n ih =>
      intro k hk
      refine o.run 100 [4] ⟨fun h => ?_, fun h => ?_⟩
      · exact absurd h (by rw [e0]; exact nI_ge (by omega) (by omega))
      · have hb := bst_le (I.2.1 0) t k
        refine o.cV vX0_89 (c_bringsOf (w := k + 1) (t := t) (by omega) ht) (fun w rv _ hpo => ?_)
        obtain ⟨rfl, rfl⟩ := hpo
        refine o.run 100 [4] ?_
        show Z _ _ _ _
        refine o.cV (rest := [.int _]) vX0_89 (c_bringsOf (w := bst (I.2.1 0) t k) (t := t) (by omega) ht) (fun w rv _ hpo => ?_)
        obtain ⟨rfl, rfl⟩ := hpo
        have e9 : nI (k + 1) + zi 1 = nI (k + 1 + 1) := nI_1 (k + 1)
        refine o.run 100 [4] ⟨fun h1 => ?_, fun h1 => ?_⟩
        · have e8 : bst (I.2.1 0) t (k + 1) = bst (I.2.1 0) t k := by
            rw [bst, if_neg (fun h2 => Int32.not_le.mpr h2 h1)]
          have := ih (k + 1) (by omega)
          rw [e8, ← e9] at this
          exact this
        · have e8 : bst (I.2.1 0) t (k + 1) = k + 1 := by
            rw [bst, if_pos (Int32.not_le.mp h1)]
          have := ih (k + 1) (by omega)
          rw [e8, ← e9] at this
          exact this
  exact o.run 100 [4] (loop (W - 1) 0 (by omega))
set_option maxRecDepth 10000 in
theorem c_plantersOf {n : Nat} {x : Int32} (hn : n ≤ 8) (e4 : I.1 4 = nI n) : zFun l D C yX0_plantersOf cX0_plantersOf 4 (some .int) (zR 0) [.ref 0, .int x] (isl 0 RB I) (fun w' rv => w' = isl 0 RB I ∧ rv = some (.int (nI (cnt (fun p => decide (I.2.1 2 p = x)) n)))) := by
  refine zFun_of (by decide) oX0_plantersOf tbX0 (Nat.le_of_ble_eq_true rfl) (fun Z o => ?_)
  have loop : ∀ j k, k + j = n → Z 4 (isl 0 RB I) [some (.ref 0), some (.int x), some (.int (nI (cnt (fun p => decide (I.2.1 2 p = x)) k))), some (.int (nI k))] [] := by
    intro j
    induction j with
    | zero =>
      intro k hk
      obtain rfl : k = n := by omega
      exact o.run 100 [] ⟨fun _ => ⟨⟨_, rfl, rfl⟩, rfl, rfl, rfl⟩, fun h => absurd (by rw [e4]; exact nI_le (Nat.le_refl _) (by omega)) h⟩
    | succ j ih =>
      intro k hk
      refine o.run 100 [4] ⟨fun h => absurd h (by rw [e4]; exact nI_ge (by omega) (by omega)), fun _ => ⟨k, rfl, by omega, fun h1 => ?_, fun h1 => ?_⟩⟩
      · have := ih (k + 1) (by omega)
        rw [cnt, if_neg (by simpa using h1), ← nI_1 k] at this
        exact this
      · have := ih (k + 1) (by omega)
        rw [cnt, if_pos (by simpa using h1), ← nI_1 k, ← nI_1] at this
        exact this
  exact o.run 100 [4] (loop n 0 (by omega))
end ISR
