/-! image, restore -/
def pkW (M : zM) : Nat → Int32 := fun k => if k < 6 then (match k with
    | 0 => M.1 0
    | 1 => M.1 3
    | 2 => M.1 4
    | 3 => M.1 9
    | 4 => M.1 10
    | _ => M.1 11) else if k < 54 then (if (k - 6) % 2 = 0 then M.2 1 ((k - 6) / 2) else M.2 2 ((k - 6) / 2)) else if k < 86 then M.2 (3 + (k - 54) % 4) ((k - 54) / 4) else if k < 96 then M.2 7 (k - 86) else M.2 (8 + (k - 96) % 4) ((k - 96) / 4)
theorem pk1 (M : zM) {j : Nat} (hj : j < 24) : pkW M (6 + 2 * j) = M.2 1 j := by
  unfold pkW
  rw [if_neg (by omega), if_pos (by omega), if_pos (by omega), show (6 + 2 * j - 6) / 2 = j by omega]
theorem pk2 (M : zM) {j : Nat} (hj : j < 24) : pkW M (6 + 2 * j + 1) = M.2 2 j := by
  unfold pkW
  rw [if_neg (by omega), if_pos (by omega), if_neg (by omega), show (6 + 2 * j + 1 - 6) / 2 = j by omega]
theorem pk3 (M : zM) {j i : Nat} (hj : j < 8) (hi : i < 4) : pkW M (54 + 4 * j + i) = M.2 (3 + i) j := by
  unfold pkW
  rw [if_neg (by omega), if_neg (by omega), if_pos (by omega), show 3 + (54 + 4 * j + i - 54) % 4 = 3 + i by omega, show (54 + 4 * j + i - 54) / 4 = j by omega]
theorem pk7 (M : zM) {j : Nat} (hj : j < 10) : pkW M (86 + j) = M.2 7 j := by
  unfold pkW
  rw [if_neg (by omega), if_neg (by omega), if_neg (by omega), if_pos (by omega), show 86 + j - 86 = j by omega]
theorem pk8 (M : zM) {j i : Nat} (hi : i < 4) : pkW M (96 + 4 * j + i) = M.2 (8 + i) j := by
  unfold pkW
  rw [if_neg (by omega), if_neg (by omega), if_neg (by omega), if_neg (by omega), show 8 + (96 + 4 * j + i - 96) % 4 = 8 + i by omega, show (96 + 4 * j + i - 96) / 4 = j by omega]
theorem pk_hy (M : zM) (f0 : Nat → Int32) : cHy M (pkW M) f0 true := ⟨fun _ => ⟨⟨rfl, rfl, rfl, rfl, rfl, rfl⟩, fun j hj => ⟨(pk1 M hj).symm, (pk2 M hj).symm⟩, fun j hj => ⟨(pk3 M (i := 0) hj (by omega)).symm, (pk3 M (i := 1) hj (by omega)).symm, (pk3 M (i := 2) hj (by omega)).symm, (pk3 M (i := 3) hj (by omega)).symm⟩, fun j hj => (pk7 M hj).symm, fun j hj => ⟨(pk8 M (i := 0) (by omega)).symm, (pk8 M (i := 1) (by omega)).symm, (pk8 M (i := 2) (by omega)).symm, (pk8 M (i := 3) (by omega)).symm⟩⟩, fun h => by cases h⟩
section MP6
variable {l : Launch} {D : va_G} {C : zC} {M : zM} {S : zF} {c : Nat}
set_option maxRecDepth 10000 in
theorem m_image (h : repM M S) (hT : okT S.1 c) : zPm l D C yX4_image cX4_image 1 2 [] M (sImage S) := by
  have hWb : S.1.1 0 ≤ 6 := hT.1.1
  have hLb : 0 < S.1.1 1 ∧ S.1.1 1 ≤ 24 := ⟨hT.1.2.1, hT.1.2.2.1⟩
  have hrb : S.1.1 2 ≤ 10 := hT.1.2.2.2.1
  have hnb : S.1.1 3 ≤ 8 := hT.1.2.2.2.2.1
  obtain ⟨⟨⟨a0, a1, a2, a3, a4, a5⟩, ⟨b1, b2, b3, b4, b5, b6⟩, kn⟩, him, tx, rf⟩ := id h
  refine zFun_of (by decide) oX4_image tbX4 (Nat.le_of_ble_eq_true rfl) (fun Z o => ?_)
  obtain ⟨N, hN⟩ : ∃ N, N = mN (mN M 39 (nI 1)) 42 (nI 1) := ⟨_, rfl⟩
  have hN2 : N.2 = M.2 := by rw [hN]; rfl
  refine o.run 100 [] ⟨Or.inr (by decide), Or.inr (by decide), ?_⟩
  show Z 11 (mdW 0 (mN (mN M 39 (nI 1)) 42 (nI 1))) _ [.ref 0]
  rw [← hN]
  refine o.cV vX4_253 (m_carryAll (W := pkW N) (f0 := N.2 21) (b := true) (pk_hy N (N.2 21)) (by rw [hN]; rfl) rfl) (fun w' rv _ hpo => ?_)
  obtain ⟨rfl, rfl⟩ := hpo
  obtain ⟨Q, hQ⟩ : ∃ Q, Q = cRw N (pkW N) (N.2 21) 24 8 10 240 1056 := ⟨_, rfl⟩
  have q1 : Q.2 1 = M.2 1 := by rw [hQ, ← hN2]; exact mix_self (fun j hj => pk1 N hj)
  have q2 : Q.2 2 = M.2 2 := by rw [hQ, ← hN2]; exact mix_self (fun j hj => pk2 N hj)
  have q3 : Q.2 3 = M.2 3 := by rw [hQ, ← hN2]; exact mix_self (fun j hj => pk3 N (i := 0) hj (by omega))
  have q4 : Q.2 4 = M.2 4 := by rw [hQ, ← hN2]; exact mix_self (fun j hj => pk3 N (i := 1) hj (by omega))
  have q5 : Q.2 5 = M.2 5 := by rw [hQ, ← hN2]; exact mix_self (fun j hj => pk3 N (i := 2) hj (by omega))
  have q6 : Q.2 6 = M.2 6 := by rw [hQ, ← hN2]; exact mix_self (fun j hj => pk3 N (i := 3) hj (by omega))
  have q7 : Q.2 7 = M.2 7 := by rw [hQ, ← hN2]; exact mix_self (fun j hj => pk7 N hj)
  have q8 : Q.2 8 = M.2 8 := by rw [hQ, ← hN2]; exact mix_self (fun j hj => pk8 N (i := 0) (by omega))
  have q9 : Q.2 9 = M.2 9 := by rw [hQ, ← hN2]; exact mix_self (fun j hj => pk8 N (i := 1) (by omega))
  have q10 : Q.2 10 = M.2 10 := by rw [hQ, ← hN2]; exact mix_self (fun j hj => pk8 N (i := 2) (by omega))
  have q11 : Q.2 11 = M.2 11 := by rw [hQ, ← hN2]; exact mix_self (fun j hj => pk8 N (i := 3) (by omega))
  have q12 : Q.2 12 = M.2 12 := by rw [hQ, ← hN2]; rfl
  have q13 : Q.2 13 = M.2 13 := by rw [hQ, ← hN2]; rfl
  have q21 : ∀ k, k < 1056 → Q.2 21 k = pkW N k := fun k hk => by rw [hQ]; exact mix_lt hk
  have n0 : Q.1 0 = M.1 0 := by rw [hQ, hN]; rfl
  have n3 : Q.1 3 = M.1 3 := by rw [hQ, hN]; rfl
  have n4 : Q.1 4 = M.1 4 := by rw [hQ, hN]; rfl
  have n9 : Q.1 9 = M.1 9 := by rw [hQ, hN]; rfl
  have n10 : Q.1 10 = M.1 10 := by rw [hQ, hN]; rfl
  have n11 : Q.1 11 = M.1 11 := by rw [hQ, hN]; rfl
  have n18 : Q.1 18 = M.1 18 := by rw [hQ, hN]; rfl
  have n39 : Q.1 39 = nI 1 := by rw [hQ, hN]; rfl
  rw [← hQ]
  refine o.run 100 [] (mret (A' := (Q.1 10, (S.1, some S.1, S.2.2))) ?_ Q ?_)
  · rw [n10, a4]; rfl
  · refine ⟨⟨⟨by rw [n0]; exact a0, by rw [n3]; exact a1, by rw [n4]; exact a2, by rw [n9]; exact a3, by rw [n10]; exact a4, by rw [n11]; exact a5⟩, ⟨by rw [q1]; exact b1, by rw [q2]; exact b2, by rw [q3]; exact b3, by rw [q4]; exact b4, by rw [q5]; exact b5, by rw [q6]; exact b6⟩, by rw [q7, q8, q9, q10, q11]; exact kn⟩, ⟨⟨⟨?_, ?_, ?_, ?_, ?_, ?_⟩, fun k hk => ⟨?_, ?_⟩, fun p hp => ⟨?_, ?_, ?_, ?_⟩, fun r hr => ?_⟩, n39⟩, by rw [n18, q12]; exact tx, by rw [q13]; exact rf⟩
    · rw [q21 0 (by omega)]; show N.1 0 = _; rw [hN]; exact a0
    · rw [q21 1 (by omega)]; show N.1 3 = _; rw [hN]; exact a1
    · rw [q21 2 (by omega)]; show N.1 4 = _; rw [hN]; exact a2
    · rw [q21 3 (by omega)]; show N.1 9 = _; rw [hN]; exact a3
    · rw [q21 4 (by omega)]; show N.1 10 = _; rw [hN]; exact a4
    · rw [q21 5 (by omega)]; show N.1 11 = _; rw [hN]; exact a5
    · rw [q21 _ (by omega), pk1 N hk, hN2, b1]
    · rw [q21 _ (by omega), show 7 + 2 * k = 6 + 2 * k + 1 by omega, pk2 N hk, hN2, b2]
    · rw [q21 _ (by omega), show 54 + 4 * p = 54 + 4 * p + 0 by omega, pk3 N hp (by omega), hN2, b3]
    · rw [q21 _ (by omega), show 55 + 4 * p = 54 + 4 * p + 1 by omega, pk3 N hp (by omega), hN2, b4]
    · rw [q21 _ (by omega), show 56 + 4 * p = 54 + 4 * p + 2 by omega, pk3 N hp (by omega), hN2, b5]
    · rw [q21 _ (by omega), show 57 + 4 * p = 54 + 4 * p + 3 by omega, pk3 N hp (by omega), hN2, b6]
    · have hr : r < S.1.1 2 := hr
      obtain ⟨i, d, g1, g2⟩ := kn r hr
      refine ⟨i, d, ?_, KN_c (fun j j1 j2 => ?_) (fun j j1 j2 => ?_) (fun j j1 j2 => ?_) (fun j j1 j2 => ?_) g2⟩
      · rw [q21 _ (by omega), pk7 N (by omega), hN2]; exact g1
      · show Q.2 21 (96 + 4 * j) = _
        rw [q21 _ (by omega), show 96 + 4 * j = 96 + 4 * j + 0 by omega, pk8 N (by omega), hN2]
      · show Q.2 21 (97 + 4 * j) = _
        rw [q21 _ (by omega), show 97 + 4 * j = 96 + 4 * j + 1 by omega, pk8 N (by omega), hN2]
      · show Q.2 21 (98 + 4 * j) = _
        rw [q21 _ (by omega), show 98 + 4 * j = 96 + 4 * j + 2 by omega, pk8 N (by omega), hN2]
      · show Q.2 21 (99 + 4 * j) = _
        rw [q21 _ (by omega), show 99 + 4 * j = 96 + 4 * j + 3 by omega, pk8 N (by omega), hN2]
set_option maxRecDepth 10000 in
theorem m_restore (h : repM M S) (hT : okT S.1 c) (hI : ∀ t, S.2.1 = some t → t.1 2 ≤ 10) : zPm l D C yX4_restore cX4_restore 1 2 [] M (sRestore S) := by
  have hWb : S.1.1 0 ≤ 6 := hT.1.1
  have hLb : 0 < S.1.1 1 ∧ S.1.1 1 ≤ 24 := ⟨hT.1.2.1, hT.1.2.2.1⟩
  have hrb : S.1.1 2 ≤ 10 := hT.1.2.2.2.1
  have hnb : S.1.1 3 ≤ 8 := hT.1.2.2.2.2.1
  obtain ⟨⟨⟨a0, a1, a2, a3, a4, a5⟩, ⟨b1, b2, b3, b4, b5, b6⟩, kn⟩, him, tx, rf⟩ := id h
  refine zFun_of (by decide) oX4_restore tbX4 (Nat.le_of_ble_eq_true rfl) (fun Z o => ?_)
  cases hS : S.2.1 with
  | none =>
    rw [hS] at him
    have him : M.1 39 = nI 0 := him
    refine o.run 100 [14] ⟨fun q => absurd (show M.1 39 = 0 by rw [him]; exact nI_0) q, fun _ => ?_⟩
    show Z 10 (mdW 0 M) _ [.int (-(nI 3)), .ref 0]
    exact o.mrf h (by omega) (by rw [sRestore, hS])
  | some t =>
    have him0 := him
    rw [hS] at him
    obtain ⟨⟨⟨f0, f1, f2, f3, f4, f5⟩, fa, fb, fc⟩, h39⟩ := him
    have ht2 := hI t hS
    have es : sRestore S = (nI (t.1 4), (t, S.2)) := by rw [sRestore, hS]
    refine o.run 100 [14] ⟨fun _ => ?_, fun q => absurd (show M.1 39 = 0 from q) (by rw [h39]; decide)⟩
    refine o.run 100 [] ⟨Or.inl (by decide), ?_⟩
    show Z 20 (mdW 0 (mN M 42 (nI 0))) _ [.ref 0]
    refine o.cV vX4_253 (m_carryAll (M := mN M 42 (nI 0)) (W := M.2 21) (f0 := M.2 21) (b := false) ⟨fun z => absurd z (by simp), fun _ k _ => rfl⟩ rfl rfl) (fun w' rv _ hpo => ?_)
    obtain ⟨rfl, rfl⟩ := hpo
    refine o.xi 1 t.2.1 rfl (fun j hj => ?_) ?_
    · show mix 24 (fun j => M.2 21 (6 + 2 * j)) (M.2 1) j = _
      rw [mix_lt hj]; exact (fa j hj).1
    refine o.xi 2 (fun j => nI (t.2.2.1 0 j)) rfl (fun j hj => ?_) ?_
    · show mix 24 (fun j => M.2 21 (6 + 2 * j + 1)) (M.2 2) j = _
      rw [mix_lt hj]; exact (congrArg (M.2 21) (by omega)).trans (fa j hj).2
    refine o.xi 3 (fun j => nI (t.2.2.1 1 j)) rfl (fun j hj => ?_) ?_
    · show mix 8 (fun j => M.2 21 (54 + 4 * j)) (M.2 3) j = _
      rw [mix_lt hj]; exact (fb j hj).1
    refine o.xi 4 (fun j => nI (t.2.2.1 2 j)) rfl (fun j hj => ?_) ?_
    · show mix 8 (fun j => M.2 21 (54 + 4 * j + 1)) (M.2 4) j = _
      rw [mix_lt hj]; exact (congrArg (M.2 21) (by omega)).trans (fb j hj).2.1
    refine o.xi 5 (t.2.2.2.1 0) rfl (fun j hj => ?_) ?_
    · show mix 8 (fun j => M.2 21 (54 + 4 * j + 2)) (M.2 5) j = _
      rw [mix_lt hj]; exact (congrArg (M.2 21) (by omega)).trans (fb j hj).2.2.1
    refine o.xi 6 (t.2.2.2.1 1) rfl (fun j hj => ?_) ?_
    · show mix 8 (fun j => M.2 21 (54 + 4 * j + 3)) (M.2 6) j = _
      rw [mix_lt hj]; exact (congrArg (M.2 21) (by omega)).trans (fb j hj).2.2.2
    refine o.run 100 [] (mret (A' := (M.2 21 4, (t, S.2))) (by rw [es, f4]) (mR (mR (mR (mR (mR (mR (cRw (mN M 42 (nI 0)) (M.2 21) (M.2 21) 24 8 10 240 1056) 1 t.2.1) 2 (fun j => nI (t.2.2.1 0 j))) 3 (fun j => nI (t.2.2.1 1 j))) 4 (fun j => nI (t.2.2.1 2 j))) 5 (t.2.2.2.1 0)) 6 (t.2.2.2.1 1)) ?_)
    refine ⟨⟨⟨f0, f1, f2, f3, f4, f5⟩, ⟨rfl, rfl, rfl, rfl, rfl, rfl⟩, fun r hr => ?_⟩, ?_, tx, rf⟩
    · have hr : r < t.1 2 := hr
      obtain ⟨i, d, g1, g2⟩ := fc r hr
      refine ⟨i, d, ?_, KN_c (fun j j1 j2 => ?_) (fun j j1 j2 => ?_) (fun j j1 j2 => ?_) (fun j j1 j2 => ?_) g2⟩
      · show mix 10 (fun j => M.2 21 (86 + j)) (M.2 7) r = _
        rw [mix_lt (by omega)]; exact g1
      · show mix 240 (fun j => M.2 21 (96 + 4 * j)) (M.2 8) j = _
        rw [mix_lt (by omega)]
      · show mix 240 (fun j => M.2 21 (96 + 4 * j + 1)) (M.2 9) j = M.2 21 (97 + 4 * j)
        rw [mix_lt (by omega)]; exact congrArg (M.2 21) (by omega)
      · show mix 240 (fun j => M.2 21 (96 + 4 * j + 2)) (M.2 10) j = M.2 21 (98 + 4 * j)
        rw [mix_lt (by omega)]; exact congrArg (M.2 21) (by omega)
      · show mix 240 (fun j => M.2 21 (96 + 4 * j + 3)) (M.2 11) j = M.2 21 (99 + 4 * j)
        rw [mix_lt (by omega)]; exact congrArg (M.2 21) (by omega)
    · show (match S.2.1 with
        | some t => repP (mix 1056 (M.2 21) (M.2 21)) t ∧ M.1 39 = nI 1
        | none => M.1 39 = nI 0)
      rw [mix_self (fun _ _ => rfl)]
      exact him0
end MP6
