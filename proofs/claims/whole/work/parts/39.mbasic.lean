/-! the reference's methods, 1 -/
theorem ix4 (w t : Nat) : nI 4 * nI w + nI t = nI (w * 4 + t) := by rw [pk_mul, nI_add, Nat.mul_comm]
theorem ad_sb (x : Nat) : nI x + nI 1 - nI 1 = nI x := by rw [nI_add, pk_sub (by omega), Nat.add_sub_cancel]
/-- the reference's public method: a call answers and changes as the spec says -/
def zPm (l : Launch) (D : va_G) (C : zC) (y : MethodName) (cc : ByteArray) (nL d : Nat) (args : List Value) (M : zM) (A : zA) : Prop :=
  zFun l D C y cc nL (some .int) (zR d) (.ref 0 :: args) (mdW 0 M) (fun w rv => (∃ M', w = mdW 0 M' ∧ repM M' A.2) ∧ rv = some (.int A.1))
theorem mret {M : zM} {A A' : zA} (e : A = A') (M' : zM) (h : repM M' A'.2) : zRt (some .int) (some (.int A'.1)) ∧ (mdW 0 M').length = (mdW 0 M).length ∧ (∃ M'', mdW 0 M' = mdW 0 M'' ∧ repM M'' A.2) ∧ some (Value.int A'.1) = some (.int A.1) := by
  subst e
  exact ⟨⟨_, rfl, rfl⟩, rfl, ⟨M', rfl, h⟩, rfl⟩
section MB
variable {l : Launch} {D : va_G} {C : zC} {M : zM} {S : zF} {c : Nat}
set_option maxRecDepth 10000 in
theorem m_in {x a b : Int64} : zFun l D C yX4_in cX4_in 6 (some .boolean) (zR 0) [.long x, .long a, .long b] [] (fun _ rv => rv = some (.int (zB (decide (a ≤ x ∧ x ≤ b))))) := by
  refine zFun_of (by decide) oX4_in tbX4 (Nat.le_of_ble_eq_true rfl) (fun Z o => ?_)
  refine o.run 100 [] ⟨fun q => ?_, fun q => ⟨fun q2 => ?_, fun q2 => ?_⟩⟩
  · have e : decide (a ≤ x ∧ x ≤ b) = false := decide_eq_false (fun z => Int64.not_lt.mpr z.1 ((lg_cmp_lt x a).mp q))
    exact ⟨zB_rt false, rfl, by rw [e]; rfl⟩
  · have e : decide (a ≤ x ∧ x ≤ b) = false := decide_eq_false (fun z => Int64.not_lt.mpr z.2 ((lg_cmp_gt x b).mp q2))
    exact ⟨zB_rt false, rfl, by rw [e]; rfl⟩
  · have e : decide (a ≤ x ∧ x ≤ b) = true := decide_eq_true ⟨Int64.not_lt.mp (fun z => q ((lg_cmp_lt x a).mpr z)), Int64.not_lt.mp (fun z => q2 ((lg_cmp_gt x b).mpr z))⟩
    exact ⟨zB_rt true, rfl, by rw [e]; rfl⟩
set_option maxRecDepth 10000 in
theorem m_refuse {k : Nat} (hk : k < 7) : zFun l D C yX4_refuse cX4_refuse 2 (some .int) (zR 0) [.ref 0, .int (-(nI k))] (mdW 0 M) (fun w rv => w = mdW 0 (mR M 13 (rfu (M.2 13) k)) ∧ rv = some (.int (-(nI k)))) := by
  refine zFun_of (by decide) oX4_refuse tbX4 (Nat.le_of_ble_eq_true rfl) (fun Z o => ?_)
  exact o.run 100 [] ⟨k, Int32.neg_neg, hk, k, Int32.neg_neg, hk, ⟨_, rfl, rfl⟩, rfl, rfl, rfl⟩
set_option maxRecDepth 10000 in
theorem m_isWay {x : Int32} {W : Nat} (hW : W < 100) (e : M.1 0 = nI W) : zFun l D C yX4_isWay cX4_isWay 2 (some .boolean) (zR 1) [.ref 0, .int x] (mdW 0 M) (fun w rv => w = mdW 0 M ∧ rv = some (.int (zB (isN x W)))) := by
  refine zFun_of (by decide) oX4_isWay tbX4 (Nat.le_of_ble_eq_true rfl) (fun Z o => ?_)
  refine o.run 100 [] ?_
  show Z _ _ _ _
  refine o.cS vX4_84 (m_in (x := x.toInt64) (a := lN 0) (b := (M.1 0 - nI 1).toInt64)) (fun rv hpo => ?_)
  subst hpo
  refine o.run 100 [] ⟨zB_rt _, rfl, rfl, ?_⟩
  rw [e, in_isN hW]
set_option maxRecDepth 10000 in
theorem m_isPerson {x : Int32} {W : Nat} (hW : W < 100) (e : M.1 4 = nI W) : zFun l D C yX4_isPerson cX4_isPerson 2 (some .boolean) (zR 1) [.ref 0, .int x] (mdW 0 M) (fun w rv => w = mdW 0 M ∧ rv = some (.int (zB (isN x W)))) := by
  refine zFun_of (by decide) oX4_isPerson tbX4 (Nat.le_of_ble_eq_true rfl) (fun Z o => ?_)
  refine o.run 100 [] ?_
  show Z _ _ _ _
  refine o.cS vX4_84 (m_in (x := x.toInt64) (a := lN 0) (b := (M.1 4 - nI 1).toInt64)) (fun rv hpo => ?_)
  subst hpo
  refine o.run 100 [] ⟨zB_rt _, rfl, rfl, ?_⟩
  rw [e, in_isN hW]
set_option maxRecDepth 10000 in
theorem m_isRule {x : Int32} {W : Nat} (hW : W < 100) (e : M.1 11 = nI W) : zFun l D C yX4_isRule cX4_isRule 2 (some .boolean) (zR 1) [.ref 0, .int x] (mdW 0 M) (fun w rv => w = mdW 0 M ∧ rv = some (.int (zB (isN x W)))) := by
  refine zFun_of (by decide) oX4_isRule tbX4 (Nat.le_of_ble_eq_true rfl) (fun Z o => ?_)
  refine o.run 100 [] ?_
  show Z _ _ _ _
  refine o.cS vX4_84 (m_in (x := x.toInt64) (a := lN 0) (b := (M.1 11 - nI 1).toInt64)) (fun rv hpo => ?_)
  subst hpo
  refine o.run 100 [] ⟨zB_rt _, rfl, rfl, ?_⟩
  rw [e, in_isN hW]
set_option maxRecDepth 10000 in
theorem m_isWeather {x : Int32} : zFun l D C yX4_isWeather cX4_isWeather 1 (some .boolean) (zR 1) [.int x] [] (fun _ rv => rv = some (.int (zB (isN x 4)))) := by
  refine zFun_of (by decide) oX4_isWeather tbX4 (Nat.le_of_ble_eq_true rfl) (fun Z o => ?_)
  refine o.run 100 [] ?_
  show Z _ _ _ _
  refine o.cS vX4_84 (m_in (x := x.toInt64) (a := lN 0) (b := (3 : Int64))) (fun rv hpo => ?_)
  subst hpo
  refine o.run 100 [] ⟨zB_rt _, rfl, ?_⟩
  rw [in_4]
set_option maxRecDepth 10000 in
theorem m_bestIn {W t : Nat} (hW : W ≤ 6) (ht : t < 4) (e0 : M.1 0 = nI W) : zFun l D C yX4_bestIn cX4_bestIn 4 (some .int) (zR 0) [.ref 0, .int (nI t)] (mdW 0 M) (fun w' rv => w' = mdW 0 M ∧ rv = some (.int (nI (bst (M.2 1) t (W - 1))))) := by
  refine zFun_of (by decide) oX4_bestIn tbX4 (Nat.le_of_ble_eq_true rfl) (fun Z o => ?_)
  have loop : ∀ n k, k + n = W - 1 → Z 4 (mdW 0 M) [some (.ref 0), some (.int (nI t)), some (.int (nI (bst (M.2 1) t k))), some (.int (nI (k + 1)))] [] := by
    intro n
    induction n with
    | zero =>
      intro k hk
      refine o.run 100 [] ⟨fun h => ?_, fun h => ?_⟩
      · obtain rfl : k = W - 1 := by omega
        exact ⟨⟨_, rfl, rfl⟩, rfl, rfl, rfl⟩
      · exact absurd (by show M.1 0 ≤ _; rw [e0]; exact nI_le (by omega) (by omega)) h
    | succ n ih =>
      intro k hk
      have hb := bst_le (M.2 1) t k
      refine o.run 100 [4] ⟨fun h => ?_, fun h => ⟨(k + 1) * 4 + t, ix4 _ _, by omega, bst (M.2 1) t k * 4 + t, ix4 _ _, by omega, fun h1 => ?_, fun h1 => ?_⟩⟩
      · exact absurd h (by show ¬ M.1 0 ≤ _; rw [e0]; exact nI_ge (by omega) (by omega))
      · have e8 : bst (M.2 1) t (k + 1) = bst (M.2 1) t k := by
          rw [bst, if_neg (fun h2 => Int32.not_le.mpr h2 h1)]
        have := ih (k + 1) (by omega)
        rw [e8, ← nI_1 (k + 1)] at this
        exact this
      · have e8 : bst (M.2 1) t (k + 1) = k + 1 := by
          rw [bst, if_pos (Int32.not_le.mp h1)]
        have := ih (k + 1) (by omega)
        rw [e8, ← nI_1 (k + 1)] at this
        exact this
  exact o.run 100 [4] (loop (W - 1) 0 (by omega))
set_option maxRecDepth 10000 in
theorem m_wrongYears {x : Int32} {n : Nat} (hn : n < 100) (e : M.1 4 = nI n) : zFun l D C yX4_wrongYears cX4_wrongYears 2 (some .int) (zR 0) [.ref 0, .int x] (mdW 0 M) (fun w rv => w = mdW 0 M ∧ rv = some (.int (whR x n))) := by
  refine zFun_of (by decide) oX4_wrongYears tbX4 (Nat.le_of_ble_eq_true rfl) (fun Z o => ?_)
  refine o.run 100 [] ⟨fun q => ⟨fun q2 => ⟨fun q3 => ⟨⟨_, rfl, rfl⟩, rfl, rfl, ?_⟩, fun q3 => ⟨⟨_, rfl, rfl⟩, rfl, rfl, ?_⟩⟩, fun q2 => ⟨⟨_, rfl, rfl⟩, rfl, rfl, ?_⟩⟩, fun q => ⟨⟨_, rfl, rfl⟩, rfl, rfl, ?_⟩⟩
  · have q3 : ¬ M.1 4 = 0 := q3
    rw [e] at q3
    rw [whR, if_neg (show ¬ x < nI 1 from Int32.not_lt.mpr q), if_neg (show ¬ nI 60 < x from Int32.not_lt.mpr q2), if_neg (fun z => q3 (by rw [z]; decide))]; rfl
  · have q3 : M.1 4 = 0 := q3
    rw [e] at q3
    have h0 : n = 0 := by
      rcases Nat.eq_zero_or_pos n with z | z
      · exact z
      · exact absurd q3 (nI_ne0 z (by omega))
    rw [whR, if_neg (show ¬ x < nI 1 from Int32.not_lt.mpr q), if_neg (show ¬ nI 60 < x from Int32.not_lt.mpr q2), if_pos h0]
  · rw [whR, if_neg (show ¬ x < nI 1 from Int32.not_lt.mpr q), if_pos (show nI 60 < x from Int32.not_le.mp q2)]
  · rw [whR, if_pos (show x < nI 1 from Int32.not_le.mp q)]
end MB
section MRF
variable {l : Launch} {D : va_G} {C : zC} {d pc k : Nat} {tab : List (Nat × Instr)} {Z : zP} {lv : zL} {M M0 : zM} {S : zF} {A : zA}
/-- a refusal -/
theorem zOps.mrf (o : zOps l D C RX4 tab (zfl FX4) (zkI IX4) (zkJ JX4) d (fun ws rv => zRt (some .int) rv ∧ ws.length = (mdW 0 M0).length ∧ (∃ M', ws = mdW 0 M' ∧ repM M' A.2) ∧ rv = some (.int A.1)) Z) (h : repM M S) (hk : k < 7) (e : A = sRf S k)
    (hd : zfd tab pc = some (.invokevirtual 96) := by rfl) (hr : zfd tab (pc + 3) = some .ireturn := by rfl) (hdd : 0 < d := by exact Nat.le_of_ble_eq_true rfl) : Z pc (mdW 0 M) lv [.int (-(nI k)), .ref 0] := by
  refine o.cV vX4_96 (m_refuse (k := k) hk) (fun w rv _ hpo => ?_) ⟨4, _, _, rfl, rfl, rfl⟩ hd rfl rfl (Nat.le_of_ble_eq_true rfl) hdd (Nat.le_of_ble_eq_true rfl)
  obtain ⟨rfl, rfl⟩ := hpo
  refine o.run 1 [] ?_
  unfold zgo
  rw [hr]
  exact mret e _ (repM_rf h k)
/-- a refusal below all answers -/
theorem zOps.mrff (o : zOps l D C RX4 tab (zfl FX4) (zkI IX4) (zkJ JX4) d (fun ws rv => zRt (some .int) rv ∧ ws.length = (mdW 0 M0).length ∧ (∃ M', ws = mdW 0 M' ∧ repM M' A.2) ∧ rv = some (.int A.1)) Z) (h : repM M S) (hk : k < 7) (e : A = sRff S k)
    (hd : zfd tab pc = some (.invokevirtual 96) := by rfl) (ha : zfd tab (pc + 3) = some .iadd := by rfl) (hr : zfd tab (pc + 4) = some .ireturn := by rfl) (hdd : 0 < d := by exact Nat.le_of_ble_eq_true rfl) : Z pc (mdW 0 M) lv [.int (-(nI k)), .ref 0, .int (-1000000000)] := by
  refine o.cV (rest := [.int (-1000000000)]) vX4_96 (m_refuse (k := k) hk) (fun w rv _ hpo => ?_) ⟨4, _, _, rfl, rfl, rfl⟩ hd rfl rfl (Nat.le_of_ble_eq_true rfl) hdd (Nat.le_of_ble_eq_true rfl)
  obtain ⟨rfl, rfl⟩ := hpo
  refine o.run 1 [] ?_
  unfold zgo
  rw [ha]
  show Z (pc + 3 + 1) _ lv [.int (-1000000000 + -(nI k))]
  refine o.run 1 [] ?_
  unfold zgo
  rw [show pc + 3 + 1 = pc + 4 from rfl, hr]
  exact mret e _ (repM_rf h k)
end MRF
