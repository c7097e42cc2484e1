/-! the reference's public methods, 1 -/
section MP1
variable {l : Launch} {D : va_G} {C : zC} {M : zM} {S : zF} {c : Nat}
set_option maxRecDepth 10000 in
theorem m_way (h : repM M S) (hT : okT S.1 c) {x0 x1 x2 x3 : Int32} : zPm l D C yX4_way cX4_way 5 1 [.int x0, .int x1, .int x2, .int x3] M (sWay S x0 x1 x2 x3) := by
  have hWb : S.1.1 0 ≤ 6 := hT.1.1
  have hLb : 0 < S.1.1 1 ∧ S.1.1 1 ≤ 24 := ⟨hT.1.2.1, hT.1.2.2.1⟩
  have hrb : S.1.1 2 ≤ 10 := hT.1.2.2.2.1
  have hnb : S.1.1 3 ≤ 8 := hT.1.2.2.2.2.1
  obtain ⟨⟨⟨a0, a1, a2, a3, a4, a5⟩, ⟨b1, b2, b3, b4, b5, b6⟩, kn⟩, him, tx, rf⟩ := id h
  refine zFun_of (by decide) oX4_way tbX4 (Nat.le_of_ble_eq_true rfl) (fun Z o => ?_)
  have r4 : (x0 < 0 ∨ x1 < 0 ∨ x2 < 0 ∨ x3 < 0) → Z 17 (mdW 0 M) [some (.ref 0), some (.int x0), some (.int x1), some (.int x2), some (.int x3)] [] := fun hc => by
    refine o.run 100 [] ?_
    show Z 20 (mdW 0 M) _ [.int (-(nI 4)), .ref 0]
    exact o.mrf h (by omega) (by rw [sWay, if_pos hc])
  refine o.run 100 [17, 24] ⟨fun q => r4 (Or.inl q), fun q0 => ⟨fun q => r4 (Or.inr (Or.inl q)), fun q1 => ⟨fun q => r4 (Or.inr (Or.inr (Or.inl q))), fun q2 => ⟨fun q3 => ?_, fun q => r4 (Or.inr (Or.inr (Or.inr (Int32.not_le.mp q))))⟩⟩⟩⟩
  have q3 : ¬ x3 < 0 := Int32.not_lt.mpr q3
  have hn : ¬ (x0 < 0 ∨ x1 < 0 ∨ x2 < 0 ∨ x3 < 0) := fun z => z.elim q0 (fun z => z.elim q1 (fun z => z.elim q2 q3))
  have r6 : (nI 99 < x0 ∨ nI 99 < x1 ∨ nI 99 < x2 ∨ nI 99 < x3 ∨ S.1.1 0 = 6) → Z 58 (mdW 0 M) [some (.ref 0), some (.int x0), some (.int x1), some (.int x2), some (.int x3)] [] := fun hc => by
    refine o.run 100 [] ?_
    show Z 61 (mdW 0 M) _ [.int (-(nI 6)), .ref 0]
    exact o.mrf h (by omega) (by rw [sWay, if_neg hn, if_pos hc])
  refine o.run 100 [58, 65] ⟨fun q => r6 (Or.inl q), fun p0 => ⟨fun q => r6 (Or.inr (Or.inl q)), fun p1 => ⟨fun q => r6 (Or.inr (Or.inr (Or.inl q))), fun p2 => ⟨fun q => r6 (Or.inr (Or.inr (Or.inr (Or.inl q)))), fun p3 => ⟨fun q => ?_, fun q => r6 (Or.inr (Or.inr (Or.inr (Or.inr ?_))))⟩⟩⟩⟩⟩
  · have q : ¬ M.1 0 = nI 6 := q
    rw [a0, nI_eq (by omega) (by omega)] at q
    have hn2 : ¬ (nI 99 < x0 ∨ nI 99 < x1 ∨ nI 99 < x2 ∨ nI 99 < x3 ∨ S.1.1 0 = 6) := fun z => z.elim p0 (fun z => z.elim p1 (fun z => z.elim p2 (fun z => z.elim p3 q)))
    refine o.run 100 [] ⟨S.1.1 0 * 4, ?_, by omega, S.1.1 0 * 4 + 1, ?_, by omega, S.1.1 0 * 4 + 2, ?_, by omega, S.1.1 0 * 4 + 3, ?_, by omega, ?_⟩
    · show nI 4 * M.1 0 = _; rw [a0, pk_mul, Nat.mul_comm]
    · show nI 4 * M.1 0 + nI 1 = _; rw [a0]; exact ix4 _ _
    · show nI 4 * M.1 0 + nI 2 = _; rw [a0]; exact ix4 _ _
    · show nI 4 * M.1 0 + nI 3 = _; rw [a0]; exact ix4 _ _
    · refine mret (A' := (M.1 0 + nI 1 - nI 1, sW S (tN (tB S.1 (upd (upd (upd (upd S.1.2.1 (S.1.1 0 * 4) x0) (S.1.1 0 * 4 + 1) x1) (S.1.1 0 * 4 + 2) x2) (S.1.1 0 * 4 + 3) x3)) 0 (S.1.1 0 + 1)))) ?_ (mN (mR M 1 (upd (upd (upd (upd (M.2 1) (S.1.1 0 * 4) x0) (S.1.1 0 * 4 + 1) x1) (S.1.1 0 * 4 + 2) x2) (S.1.1 0 * 4 + 3) x3)) 0 (M.1 0 + nI 1)) ?_
      · rw [sWay, if_neg hn, if_neg hn2, a0, ad_sb]
      · refine ⟨⟨⟨?_, a1, a2, a3, a4, a5⟩, ⟨?_, b2, b3, b4, b5, b6⟩, kn⟩, him, tx, rf⟩
        · show M.1 0 + nI 1 = nI (S.1.1 0 + 1)
          rw [a0, nI_add]
        · show upd (upd (upd (upd (M.2 1) (S.1.1 0 * 4) x0) (S.1.1 0 * 4 + 1) x1) (S.1.1 0 * 4 + 2) x2) (S.1.1 0 * 4 + 3) x3 = _
          rw [b1]; rfl
  · have q : M.1 0 = nI 6 := q
    rw [a0, nI_eq (by omega) (by omega)] at q
    exact q
set_option maxRecDepth 10000 in
theorem m_brings (h : repM M S) (hT : okT S.1 c) {w t v : Int32} : zPm l D C yX4_brings cX4_brings 5 2 [.int w, .int t, .int v] M (sBrings S w t v) := by
  have hWb : S.1.1 0 ≤ 6 := hT.1.1
  have hLb : 0 < S.1.1 1 ∧ S.1.1 1 ≤ 24 := ⟨hT.1.2.1, hT.1.2.2.1⟩
  have hrb : S.1.1 2 ≤ 10 := hT.1.2.2.2.1
  have hnb : S.1.1 3 ≤ 8 := hT.1.2.2.2.2.1
  obtain ⟨⟨⟨a0, a1, a2, a3, a4, a5⟩, ⟨b1, b2, b3, b4, b5, b6⟩, kn⟩, him, tx, rf⟩ := id h
  refine zFun_of (by decide) oX4_brings tbX4 (Nat.le_of_ble_eq_true rfl) (fun Z o => ?_)
  have bad : ((isN w (S.1.1 0) && isN t 4)) = false → Z 15 (mdW 0 M) [some (.ref 0), some (.int w), some (.int t), some (.int v), none] [] := fun hf => by
    refine o.run 100 [] ?_
    show Z 17 (mdW 0 M) _ [.int (-(nI 1)), .ref 0]
    exact o.mrf h (by omega) (by rw [sBrings, hf]; rfl)
  have good : (isN w (S.1.1 0) && isN t 4) = true → Z 21 (mdW 0 M) [some (.ref 0), some (.int w), some (.int t), some (.int v), none] [] := fun hb => by
    obtain ⟨hq1, hq2⟩ := Bool.and_eq_true_iff.mp hb
    obtain ⟨ew, hwl⟩ := isN_cl (by omega) hq1
    obtain ⟨et, htl⟩ := isN_cl (by omega) hq2
    refine o.run 100 [32] ⟨fun q => ?_, fun q => ?_⟩
    · have h4 : ¬ v < 0 := Int32.not_lt.mpr q
      refine o.run 100 [45] ⟨fun q => ?_, fun q => ?_⟩
      · have h6 : ¬ nI 99 < v := Int32.not_lt.mpr q
        have ei : nI 4 * w + t = nI (cl w * 4 + cl t) := by
          have := ix4 (cl w) (cl t)
          rw [← ew, ← et] at this
          exact this
        refine o.run 100 [] ⟨cl w * 4 + cl t, ei, by omega, cl w * 4 + cl t, ei, by omega, ?_⟩
        refine mret (A' := (M.2 1 (cl w * 4 + cl t), sW S (tB S.1 (upd S.1.2.1 (cl w * 4 + cl t) v)))) ?_ (mR M 1 (upd (M.2 1) (cl w * 4 + cl t) v)) ?_
        · rw [sBrings, if_pos hb, if_neg h4, if_neg h6, b1]
        · refine ⟨⟨⟨a0, a1, a2, a3, a4, a5⟩, ⟨?_, b2, b3, b4, b5, b6⟩, kn⟩, him, tx, rf⟩
          show upd (M.2 1) (cl w * 4 + cl t) v = _
          rw [b1]; rfl
      · show Z 41 (mdW 0 M) _ [.int (-(nI 6)), .ref 0]
        exact o.mrf h (by omega) (by rw [sBrings, if_pos hb, if_neg h4, if_pos (show nI 99 < v from Int32.not_le.mp q)])
    · show Z 28 (mdW 0 M) _ [.int (-(nI 4)), .ref 0]
      exact o.mrf h (by omega) (by rw [sBrings, if_pos hb, if_pos (show v < 0 from Int32.not_le.mp q)])
  refine o.run 100 [] ?_
  show Z _ _ _ _
  refine o.cV vX4_100 (m_isWay (x := w) (by omega) a0) (fun w' rv _ hpo => ?_)
  obtain ⟨rfl, rfl⟩ := hpo
  refine o.run 100 [15] ⟨fun q => bad ?_, fun q => ?_⟩
  · rw [(zB_0 _).mp q]; rfl
  · have hq1 := zB_t q
    show Z _ _ _ _
    refine o.cS vX4_104 (m_isWeather (x := t)) (fun rv hpo => ?_)
    subst hpo
    refine o.run 100 [15, 21] ⟨fun q => good ?_, fun q => bad ?_⟩
    · rw [hq1, zB_t q]; rfl
    · rw [hq1, (zB_0 _).mp q]; rfl
set_option maxRecDepth 10000 in
theorem m_bestWay (h : repM M S) (hT : okT S.1 c) {t : Int32} : zPm l D C yX4_bestWay cX4_bestWay 2 2 [.int t] M (sBestWay S t) := by
  have hWb : S.1.1 0 ≤ 6 := hT.1.1
  have hLb : 0 < S.1.1 1 ∧ S.1.1 1 ≤ 24 := ⟨hT.1.2.1, hT.1.2.2.1⟩
  have hrb : S.1.1 2 ≤ 10 := hT.1.2.2.2.1
  have hnb : S.1.1 3 ≤ 8 := hT.1.2.2.2.2.1
  obtain ⟨⟨⟨a0, a1, a2, a3, a4, a5⟩, ⟨b1, b2, b3, b4, b5, b6⟩, kn⟩, him, tx, rf⟩ := id h
  refine zFun_of (by decide) oX4_bestWay tbX4 (Nat.le_of_ble_eq_true rfl) (fun Z o => ?_)
  refine o.run 100 [] ?_
  show Z _ _ _ _
  refine o.cS vX4_104 (m_isWeather (x := t)) (fun rv hpo => ?_)
  subst hpo
  refine o.run 100 [15] ⟨fun q => ?_, fun q => ?_⟩
  · have hq := zB_t q
    obtain ⟨et, htl⟩ := isN_cl (by omega) hq
    refine o.run 100 [31] ⟨fun q => ?_, fun q => ?_⟩
    · have q : ¬ M.1 0 = 0 := q
      rw [a0] at q
      have h0 : ¬ S.1.1 0 = 0 := fun z => q (by rw [z]; decide)
      refine o.run 100 [] ?_
      show Z 33 (mdW 0 M) [some (.ref 0), some (.int t)] [.int t, .ref 0]
      have es : sBestWay S t = (nI (bst S.1.2.1 (cl t) (S.1.1 0 - 1)), S) := by rw [sBestWay, if_pos hq, if_neg h0]
      obtain ⟨tn, htn⟩ : ∃ k, k = cl t := ⟨_, rfl⟩
      rw [← htn] at et htl es
      subst et
      refine o.cV vX4_107 (m_bestIn (t := tn) hWb htl a0) (fun w' rv _ hpo => ?_)
      obtain ⟨rfl, rfl⟩ := hpo
      rw [b1]
      exact o.run 100 [] (mret (A' := (nI (bst S.1.2.1 tn (S.1.1 0 - 1)), S)) es M h)
    · have q : M.1 0 = 0 := q
      rw [a0] at q
      have h0 : S.1.1 0 = 0 := by
        rcases Nat.eq_zero_or_pos (S.1.1 0) with z | z
        · exact z
        · exact absurd q (nI_ne0 z (by omega))
      show Z 25 (mdW 0 M) _ [.int (-(nI 3)), .ref 0]
      refine o.cV vX4_96 (m_refuse (k := 3) (by omega)) (fun w rv _ hpo => ?_)
      obtain ⟨rfl, rfl⟩ := hpo
      exact o.run 100 [] (mret (A' := sRf S 3) (by rw [sBestWay, if_pos hq, if_pos h0]) _ (repM_rf h 3))
  · show Z 9 (mdW 0 M) _ [.int (-(nI 1)), .ref 0]
    refine o.cV vX4_96 (m_refuse (k := 1) (by omega)) (fun w rv _ hpo => ?_)
    obtain ⟨rfl, rfl⟩ := hpo
    exact o.run 100 [] (mret (A' := sRf S 1) (by rw [sBestWay, (zB_0 _).mp q]; rfl) _ (repM_rf h 1))
set_option maxRecDepth 10000 in
theorem m_sky (h : repM M S) (hT : okT S.1 c) {n : Int32} {x : Int64} : zPm l D C yX4_sky cX4_sky 6 1 [.int n, .long x] M (sSky S n x) := by
  have hWb : S.1.1 0 ≤ 6 := hT.1.1
  have hLb : 0 < S.1.1 1 ∧ S.1.1 1 ≤ 24 := ⟨hT.1.2.1, hT.1.2.2.1⟩
  have hrb : S.1.1 2 ≤ 10 := hT.1.2.2.2.1
  have hnb : S.1.1 3 ≤ 8 := hT.1.2.2.2.2.1
  obtain ⟨⟨⟨a0, a1, a2, a3, a4, a5⟩, ⟨b1, b2, b3, b4, b5, b6⟩, kn⟩, him, tx, rf⟩ := id h
  refine zFun_of (by decide) oX4_sky tbX4 (Nat.le_of_ble_eq_true rfl) (fun Z o => ?_)
  refine o.run 100 [12] ⟨fun q => ?_, fun q => ?_⟩
  · have h4 : ¬ n < nI 1 := Int32.not_lt.mpr q
    refine o.run 100 [25] ⟨fun q => ?_, fun q => ?_⟩
    · have h6 : ¬ nI 24 < n := Int32.not_lt.mpr q
      obtain ⟨m, hm, rfl⟩ := nI_of (x := n) (fun z => h4 (Int32.lt_trans z (by decide)))
      rw [nI_ltI (by omega) (by omega)] at h4 h6
      have es : sSky S (nI m) x = (nI (S.1.1 1), sW S (tN (tR S.1 0 (mixN m (wb2 x) (S.1.2.2.1 0))) 1 m)) := by
        rw [sSky, if_neg (by rw [nI_ltI (by omega) (by omega)]; omega), if_neg (by rw [nI_ltI (by omega) (by omega)]; omega), show cl (nI m) = m from nI_clamp (by omega)]
      have loop : ∀ j k, k + j = m → Z 39 (mdW 0 (mR (mN M 3 (nI m)) 2 (fun j => nI (mixN k (wb2 x) (S.1.2.2.1 0) j)))) [some (.ref 0), some (.int (nI m)), some (.long x), none, some (.int (nI (S.1.1 1))), some (.int (nI k))] [] := by
        intro j
        induction j with
        | zero =>
          intro k hk
          obtain rfl : k = m := by omega
          refine o.run 100 [] ⟨fun _ => mret (A' := (nI (S.1.1 1), sW S (tN (tR S.1 0 (mixN k (wb2 x) (S.1.2.2.1 0))) 1 k))) es _ ?_, fun q => absurd (nI_le (Nat.le_refl _) (by omega)) q⟩
          exact ⟨⟨⟨a0, rfl, a2, a3, a4, a5⟩, ⟨b1, rfl, b3, b4, b5, b6⟩, kn⟩, him, tx, rf⟩
        | succ j ih =>
          intro k hk
          refine o.run 100 [39] ⟨fun q => absurd q (nI_ge (by omega) (by omega)), fun _ => ⟨k, rfl, by omega, ?_⟩⟩
          have := ih (k + 1) (by omega)
          rw [← mixN_upd, ← s_wb2 x (by omega), ← nI_1 k] at this
          exact this
      have h0 := loop m 0 (by omega)
      have e0 : (fun j => nI (mixN 0 (wb2 x) (S.1.2.2.1 0) j)) = M.2 2 := by
        rw [b2]
        funext j
        unfold mixN
        rw [if_neg (Nat.not_lt_zero j)]
      rw [e0, ← a1] at h0
      exact o.run 100 [39] h0
    · show Z 21 (mdW 0 M) _ [.int (-(nI 6)), .ref 0]
      exact o.mrf h (by omega) (by rw [sSky, if_neg h4, if_pos (show nI 24 < n from Int32.not_le.mp q)])
  · show Z 8 (mdW 0 M) _ [.int (-(nI 4)), .ref 0]
    exact o.mrf h (by omega) (by rw [sSky, if_pos (show n < nI 1 from Int32.not_le.mp q)])
set_option maxRecDepth 10000 in
theorem m_weather (h : repM M S) (hT : okT S.1 c) {y : Int32} : zPm l D C yX4_weather cX4_weather 2 1 [.int y] M (sWeather S y) := by
  have hWb : S.1.1 0 ≤ 6 := hT.1.1
  have hLb : 0 < S.1.1 1 ∧ S.1.1 1 ≤ 24 := ⟨hT.1.2.1, hT.1.2.2.1⟩
  have hrb : S.1.1 2 ≤ 10 := hT.1.2.2.2.1
  have hnb : S.1.1 3 ≤ 8 := hT.1.2.2.2.2.1
  obtain ⟨⟨⟨a0, a1, a2, a3, a4, a5⟩, ⟨b1, b2, b3, b4, b5, b6⟩, kn⟩, him, tx, rf⟩ := id h
  refine zFun_of (by decide) oX4_weather tbX4 (Nat.le_of_ble_eq_true rfl) (fun Z o => ?_)
  refine o.run 100 [13] ⟨fun q => ?_, fun q => ?_⟩
  · have h4 : ¬ y < 0 := Int32.not_lt.mpr q
    refine o.run 100 [28] ⟨fun q => ?_, fun q => ?_⟩
    · have h6 : ¬ 999999 < y := Int32.not_lt.mpr q
      obtain ⟨m, hm, rfl⟩ := nI_of h4
      refine o.run 100 [] ⟨?_, m % S.1.1 1, ?_, ?_, ?_⟩
      · show ¬ M.1 3 = 0
        rw [a1]; exact nI_ne0 hLb.1 (by omega)
      · show nI m - nI m / M.1 3 * M.1 3 = _
        rw [a1]; exact pk_rem hm hLb.1 (by omega)
      · have := Nat.mod_lt m hLb.1; omega
      · refine mret (A' := (M.2 2 (m % S.1.1 1), S)) ?_ M h
        rw [sWeather, if_neg h4, if_neg h6, show cl (nI m) = m from nI_clamp (by omega), b2]
    · show Z 22 (mdW 0 M) _ [.int (-(nI 6)), .ref 0]
      refine o.cV vX4_96 (m_refuse (k := 6) (by omega)) (fun w rv _ hpo => ?_)
      obtain ⟨rfl, rfl⟩ := hpo
      exact o.run 100 [] (mret (A' := sRf S 6) (by rw [sWeather, if_neg h4, if_pos (show 999999 < y from Int32.not_le.mp q)]) _ (repM_rf h 6))
  · show Z 7 (mdW 0 M) _ [.int (-(nI 4)), .ref 0]
    refine o.cV vX4_96 (m_refuse (k := 4) (by omega)) (fun w rv _ hpo => ?_)
    obtain ⟨rfl, rfl⟩ := hpo
    exact o.run 100 [] (mret (A' := sRf S 4) (by rw [sWeather, if_pos (show y < 0 from Int32.not_le.mp q)]) _ (repM_rf h 4))
/-- k bytes of x behind the first T -/
def mixB (T k : Nat) (x : Int64) (f : Nat → Int32) : Nat → Int32 := fun j => if T ≤ j ∧ j < T + k then nI (wb8 x (j - T)) else f j
theorem mixB_upd (T k : Nat) (x : Int64) (f : Nat → Int32) : upd (mixB T k x f) (T + k) (nI (wb8 x k)) = mixB T (k + 1) x f := by
  funext j
  unfold upd mixB
  by_cases h1 : j = T + k
  · subst h1; rw [if_pos rfl, if_pos (by omega), Nat.add_sub_cancel_left]
  · rw [if_neg h1]
    by_cases h2 : T ≤ j ∧ j < T + k
    · rw [if_pos h2, if_pos (by omega)]
    · rw [if_neg h2, if_neg (by omega)]
theorem mixB_0 (T : Nat) (x : Int64) (f : Nat → Int32) : mixB T 0 x f = f := by
  funext j
  unfold mixB
  rw [if_neg (by omega)]
set_option maxRecDepth 10000 in
theorem m_feed (h : repM M S) (hT : okT S.1 c) {n : Int32} {x : Int64} : zPm l D C yX4_feed cX4_feed 5 1 [.int n, .long x] M (sFeed S n x) := by
  have hWb : S.1.1 0 ≤ 6 := hT.1.1
  have hLb : 0 < S.1.1 1 ∧ S.1.1 1 ≤ 24 := ⟨hT.1.2.1, hT.1.2.2.1⟩
  have hrb : S.1.1 2 ≤ 10 := hT.1.2.2.2.1
  have hnb : S.1.1 3 ≤ 8 := hT.1.2.2.2.2.1
  obtain ⟨⟨⟨a0, a1, a2, a3, a4, a5⟩, ⟨b1, b2, b3, b4, b5, b6⟩, kn⟩, him, tx, rf⟩ := id h
  refine zFun_of (by decide) oX4_feed tbX4 (Nat.le_of_ble_eq_true rfl) (fun Z o => ?_)
  obtain ⟨x0, x1, x2⟩ := tx
  obtain ⟨T, hT0⟩ : ∃ T, T = S.2.2.1.1 := ⟨_, rfl⟩
  rw [← hT0] at x0 x1
  refine o.run 100 [12] ⟨fun q => ?_, fun q => ?_⟩
  · have h4 : ¬ n < nI 1 := Int32.not_lt.mpr q
    obtain ⟨m, hm, rfl⟩ := nI_of (x := n) (fun z => h4 (Int32.lt_trans z (by decide)))
    have ecl : cl (nI m) = m := nI_clamp (by omega)
    refine o.run 100 [29, 36] ⟨fun q => ?_, fun q => ⟨fun q2 => ?_, fun q2 => ?_⟩⟩
    · refine o.run 100 [] ?_
      show Z 32 (mdW 0 M) _ [.int (-(nI 6)), .ref 0]
      exact o.mrf h (by omega) (by rw [sFeed, if_neg h4, if_pos (show nI 8 < nI m from q)])
    · have q0 : ¬ nI 8 < nI m := q
      have q2 : M.1 18 + nI m ≤ nI 24 := q2
      have q : ¬ nI 8 < nI m := q
      rw [nI_ltI (by omega) (by omega)] at h4 q
      rw [x0, nI_add, nI_leI (by omega) (by omega)] at q2
      have es : sFeed S (nI m) x = (nI (T + m), (S.1, S.2.1, (T + m, fun j => if j < T then S.2.2.1.2 j else nI (wb8 x (j - T))), S.2.2.2)) := by
        rw [sFeed, if_neg (by rw [nI_ltI (by omega) (by omega)]; omega), if_neg q0, ecl, ← hT0, if_neg (by omega)]
      have loop : ∀ j k, k + j = m → Z 39 (mdW 0 (mN (mR M 12 (mixB T k x (M.2 12))) 18 (nI (T + k)))) [some (.ref 0), some (.int (nI m)), some (.long x), none, some (.int (nI k))] [] := by
        intro j
        induction j with
        | zero =>
          intro k hk
          obtain rfl : k = m := by omega
          refine o.run 100 [] ⟨fun _ => mret (A' := (nI (T + k), (S.1, S.2.1, (T + k, fun j => if j < T then S.2.2.1.2 j else nI (wb8 x (j - T))), S.2.2.2))) es _ ?_, fun q => absurd (nI_le (Nat.le_refl _) (by omega)) q⟩
          refine ⟨⟨⟨a0, a1, a2, a3, a4, a5⟩, ⟨b1, b2, b3, b4, b5, b6⟩, kn⟩, him, ⟨rfl, by show T + k ≤ 24; omega, fun j hj => ?_⟩, rf⟩
          have hj : j < T + k := hj
          show mixB T k x (M.2 12) j = if j < T then S.2.2.1.2 j else nI (wb8 x (j - T))
          unfold mixB
          by_cases hjT : j < T
          · rw [if_neg (by omega), if_pos hjT, x2 j (by omega)]
          · rw [if_pos (by omega), if_neg hjT]
        | succ j ih =>
          intro k hk
          refine o.run 100 [39] ⟨fun q => absurd q (nI_ge (by omega) (by omega)), fun _ => ⟨T + k, rfl, by omega, ?_⟩⟩
          have := ih (k + 1) (by omega)
          rw [← mixB_upd, ← s_wb8 x (by omega), show T + (k + 1) = T + k + 1 by omega, ← nI_1 (T + k), ← nI_1 k] at this
          exact this
      have h0 := loop m 0 (by omega)
      rw [mixB_0, Nat.add_zero, ← x0] at h0
      exact o.run 100 [39] h0
    · have q0 : ¬ nI 8 < nI m := q
      have q2 : ¬ M.1 18 + nI m ≤ nI 24 := q2
      have q : ¬ nI 8 < nI m := q
      rw [nI_ltI (by omega) (by omega)] at q
      rw [x0, nI_add, nI_leI (by omega) (by omega)] at q2
      refine o.run 100 [] ?_
      show Z 32 (mdW 0 M) _ [.int (-(nI 6)), .ref 0]
      exact o.mrf h (by omega) (by rw [sFeed, if_neg h4, if_neg q0, ecl, ← hT0, if_pos (by omega)])
  · show Z 8 (mdW 0 M) _ [.int (-(nI 4)), .ref 0]
    exact o.mrf h (by omega) (by rw [sFeed, if_pos (show n < nI 1 from Int32.not_le.mp q)])
end MP1
