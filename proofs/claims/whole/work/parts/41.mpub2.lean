/-! the reference's public methods, 2 -/
section MP2
variable {l : Launch} {D : va_G} {C : zC} {M : zM} {S : zF} {c : Nat}
set_option maxRecDepth 10000 in
theorem m_person (h : repM M S) (hT : okT S.1 c) {w r : Int32} : zPm l D C yX4_person cX4_person 3 2 [.int w, .int r] M (sPerson S w r) := by
  have hWb : S.1.1 0 ≤ 6 := hT.1.1
  have hLb : 0 < S.1.1 1 ∧ S.1.1 1 ≤ 24 := ⟨hT.1.2.1, hT.1.2.2.1⟩
  have hrb : S.1.1 2 ≤ 10 := hT.1.2.2.2.1
  have hnb : S.1.1 3 ≤ 8 := hT.1.2.2.2.2.1
  obtain ⟨⟨⟨a0, a1, a2, a3, a4, a5⟩, ⟨b1, b2, b3, b4, b5, b6⟩, kn⟩, him, tx, rf⟩ := id h
  refine zFun_of (by decide) oX4_person tbX4 (Nat.le_of_ble_eq_true rfl) (fun Z o => ?_)
  have bad : (isN w (S.1.1 0) && isN r (S.1.1 2)) = false → Z 16 (mdW 0 M) [some (.ref 0), some (.int w), some (.int r)] [] := fun hf => by
    refine o.run 100 [] ?_
    show Z 18 (mdW 0 M) _ [.int (-(nI 1)), .ref 0]
    exact o.mrf h (by omega) (by rw [sPerson, hf]; rfl)
  have good : (isN w (S.1.1 0) && isN r (S.1.1 2)) = true → Z 22 (mdW 0 M) [some (.ref 0), some (.int w), some (.int r)] [] := fun hb => by
    obtain ⟨hq1, hq2⟩ := Bool.and_eq_true_iff.mp hb
    obtain ⟨ew, hwl⟩ := isN_cl (by omega) hq1
    obtain ⟨er, hrl⟩ := isN_cl (by omega) hq2
    refine o.run 100 [38] ⟨fun q => ?_, fun q => ?_⟩
    · have q : ¬ M.1 4 = nI 8 := q
      rw [a2, nI_eq (by omega) (by omega)] at q
      refine o.run 100 [] ⟨S.1.1 3, a2, by omega, S.1.1 3, a2, by omega, S.1.1 3, a2, by omega, S.1.1 3, a2, by omega, ?_⟩
      refine mret (A' := (M.1 4 + nI 1 - nI 1, sW S (tN (tX (tX (tR (tR S.1 1 (updN (S.1.2.2.1 1) (S.1.1 3) (cl w))) 2 (updN (S.1.2.2.1 2) (S.1.1 3) (cl r))) 0 (upd (S.1.2.2.2.1 0) (S.1.1 3) (nI 255))) 1 (upd (S.1.2.2.2.1 1) (S.1.1 3) (nI 0))) 3 (S.1.1 3 + 1)))) ?_ (mN (mR (mR (mR (mR M 3 (upd (M.2 3) (S.1.1 3) w)) 4 (upd (M.2 4) (S.1.1 3) r)) 5 (upd (M.2 5) (S.1.1 3) (nI 255))) 6 (upd (M.2 6) (S.1.1 3) (nI 0))) 4 (M.1 4 + nI 1)) ?_
      · rw [sPerson, if_pos hb, if_neg q, a2, ad_sb]
      · refine ⟨⟨⟨a0, a1, ?_, a3, a4, a5⟩, ⟨b1, b2, ?_, ?_, ?_, ?_⟩, kn⟩, him, tx, rf⟩
        · show M.1 4 + nI 1 = nI (S.1.1 3 + 1)
          rw [a2, nI_add]
        · show upd (M.2 3) (S.1.1 3) w = fun j => nI (updN (S.1.2.2.1 1) (S.1.1 3) (cl w) j)
          rw [b3, ← upd_nI, ← ew]
        · show upd (M.2 4) (S.1.1 3) r = fun j => nI (updN (S.1.2.2.1 2) (S.1.1 3) (cl r) j)
          rw [b4, ← upd_nI, ← er]
        · show upd (M.2 5) (S.1.1 3) (nI 255) = upd (S.1.2.2.2.1 0) (S.1.1 3) (nI 255)
          rw [b5]
        · show upd (M.2 6) (S.1.1 3) (nI 0) = upd (S.1.2.2.2.1 1) (S.1.1 3) (nI 0)
          rw [b6]
    · have q : M.1 4 = nI 8 := q
      rw [a2, nI_eq (by omega) (by omega)] at q
      show Z 34 (mdW 0 M) _ [.int (-(nI 6)), .ref 0]
      exact o.mrf h (by omega) (by rw [sPerson, if_pos hb, if_pos q])
  refine o.run 100 [] ?_
  show Z _ _ _ _
  refine o.cV vX4_100 (m_isWay (x := w) (by omega) a0) (fun w' rv _ hpo => ?_)
  obtain ⟨rfl, rfl⟩ := hpo
  refine o.run 100 [16] ⟨fun q => bad ?_, fun q => ?_⟩
  · rw [(zB_0 _).mp q]; rfl
  · have hq1 := zB_t q
    show Z _ _ _ _
    refine o.cV vX4_156 (m_isRule (x := r) (by omega) a5) (fun w' rv _ hpo => ?_)
    obtain ⟨rfl, rfl⟩ := hpo
    refine o.run 100 [16, 22] ⟨fun q => good ?_, fun q => bad ?_⟩
    · rw [hq1, zB_t q]; rfl
    · rw [hq1, (zB_0 _).mp q]; rfl
set_option maxRecDepth 10000 in
theorem m_lives (h : repM M S) (hT : okT S.1 c) {p r : Int32} : zPm l D C yX4_lives cX4_lives 4 2 [.int p, .int r] M (sLives S p r) := by
  have hWb : S.1.1 0 ≤ 6 := hT.1.1
  have hLb : 0 < S.1.1 1 ∧ S.1.1 1 ≤ 24 := ⟨hT.1.2.1, hT.1.2.2.1⟩
  have hrb : S.1.1 2 ≤ 10 := hT.1.2.2.2.1
  have hnb : S.1.1 3 ≤ 8 := hT.1.2.2.2.2.1
  obtain ⟨⟨⟨a0, a1, a2, a3, a4, a5⟩, ⟨b1, b2, b3, b4, b5, b6⟩, kn⟩, him, tx, rf⟩ := id h
  refine zFun_of (by decide) oX4_lives tbX4 (Nat.le_of_ble_eq_true rfl) (fun Z o => ?_)
  have bad : (isN p (S.1.1 3) && isN r (S.1.1 2)) = false → Z 16 (mdW 0 M) [some (.ref 0), some (.int p), some (.int r), none] [] := fun hf => by
    refine o.run 100 [] ?_
    show Z 18 (mdW 0 M) _ [.int (-(nI 1)), .ref 0]
    exact o.mrf h (by omega) (by rw [sLives, hf]; rfl)
  have good : (isN p (S.1.1 3) && isN r (S.1.1 2)) = true → Z 22 (mdW 0 M) [some (.ref 0), some (.int p), some (.int r), none] [] := fun hb => by
    obtain ⟨hq1, hq2⟩ := Bool.and_eq_true_iff.mp hb
    obtain ⟨ep, hpl⟩ := isN_cl (by omega) hq1
    obtain ⟨er, hrl⟩ := isN_cl (by omega) hq2
    refine o.run 100 [] ⟨cl p, ep, by omega, cl p, ep, by omega, ?_⟩
    refine mret (A' := (M.2 4 (cl p), sW S (tR S.1 2 (updN (ruT S.1) (cl p) (cl r))))) ?_ (mR M 4 (upd (M.2 4) (cl p) r)) ?_
    · rw [sLives, if_pos hb, b4]
    · refine ⟨⟨⟨a0, a1, a2, a3, a4, a5⟩, ⟨b1, b2, b3, ?_, b5, b6⟩, kn⟩, him, tx, rf⟩
      show upd (M.2 4) (cl p) r = fun j => nI (updN (ruT S.1) (cl p) (cl r) j)
      rw [b4, ← upd_nI, ← er]
  refine o.run 100 [] ?_
  show Z _ _ _ _
  refine o.cV vX4_159 (m_isPerson (x := p) (by omega) a2) (fun w' rv _ hpo => ?_)
  obtain ⟨rfl, rfl⟩ := hpo
  refine o.run 100 [16] ⟨fun q => bad ?_, fun q => ?_⟩
  · rw [(zB_0 _).mp q]; rfl
  · have hq1 := zB_t q
    show Z _ _ _ _
    refine o.cV vX4_156 (m_isRule (x := r) (by omega) a5) (fun w' rv _ hpo => ?_)
    obtain ⟨rfl, rfl⟩ := hpo
    refine o.run 100 [16, 22] ⟨fun q => good ?_, fun q => bad ?_⟩
    · rw [hq1, zB_t q]; rfl
    · rw [hq1, (zB_0 _).mp q]; rfl
set_option maxRecDepth 10000 in
theorem m_plants (h : repM M S) (hT : okT S.1 c) {p r : Int32} : zPm l D C yX4_plants cX4_plants 4 2 [.int p, .int r] M (sPlants S p r) := by
  have hWb : S.1.1 0 ≤ 6 := hT.1.1
  have hLb : 0 < S.1.1 1 ∧ S.1.1 1 ≤ 24 := ⟨hT.1.2.1, hT.1.2.2.1⟩
  have hrb : S.1.1 2 ≤ 10 := hT.1.2.2.2.1
  have hnb : S.1.1 3 ≤ 8 := hT.1.2.2.2.2.1
  obtain ⟨⟨⟨a0, a1, a2, a3, a4, a5⟩, ⟨b1, b2, b3, b4, b5, b6⟩, kn⟩, him, tx, rf⟩ := id h
  refine zFun_of (by decide) oX4_plants tbX4 (Nat.le_of_ble_eq_true rfl) (fun Z o => ?_)
  have bad : (isN p (S.1.1 3) && isN r (S.1.1 0)) = false → Z 16 (mdW 0 M) [some (.ref 0), some (.int p), some (.int r), none] [] := fun hf => by
    refine o.run 100 [] ?_
    show Z 18 (mdW 0 M) _ [.int (-(nI 1)), .ref 0]
    exact o.mrf h (by omega) (by rw [sPlants, hf]; rfl)
  have good : (isN p (S.1.1 3) && isN r (S.1.1 0)) = true → Z 22 (mdW 0 M) [some (.ref 0), some (.int p), some (.int r), none] [] := fun hb => by
    obtain ⟨hq1, hq2⟩ := Bool.and_eq_true_iff.mp hb
    obtain ⟨ep, hpl⟩ := isN_cl (by omega) hq1
    obtain ⟨er, hrl⟩ := isN_cl (by omega) hq2
    refine o.run 100 [] ⟨cl p, ep, by omega, cl p, ep, by omega, ?_⟩
    refine mret (A' := (M.2 3 (cl p), sW S (tR S.1 1 (updN (S.1.2.2.1 1) (cl p) (cl r))))) ?_ (mR M 3 (upd (M.2 3) (cl p) r)) ?_
    · rw [sPlants, if_pos hb, b3]
    · refine ⟨⟨⟨a0, a1, a2, a3, a4, a5⟩, ⟨b1, b2, ?_, b4, b5, b6⟩, kn⟩, him, tx, rf⟩
      show upd (M.2 3) (cl p) r = fun j => nI (updN (S.1.2.2.1 1) (cl p) (cl r) j)
      rw [b3, ← upd_nI, ← er]
  refine o.run 100 [] ?_
  show Z _ _ _ _
  refine o.cV vX4_159 (m_isPerson (x := p) (by omega) a2) (fun w' rv _ hpo => ?_)
  obtain ⟨rfl, rfl⟩ := hpo
  refine o.run 100 [16] ⟨fun q => bad ?_, fun q => ?_⟩
  · rw [(zB_0 _).mp q]; rfl
  · have hq1 := zB_t q
    show Z _ _ _ _
    refine o.cV vX4_100 (m_isWay (x := r) (by omega) a0) (fun w' rv _ hpo => ?_)
    obtain ⟨rfl, rfl⟩ := hpo
    refine o.run 100 [16, 22] ⟨fun q => good ?_, fun q => bad ?_⟩
    · rw [hq1, zB_t q]; rfl
    · rw [hq1, (zB_0 _).mp q]; rfl
set_option maxRecDepth 10000 in
theorem m_sees (h : repM M S) (hT : okT S.1 c) {p x : Int32} : zPm l D C yX4_sees cX4_sees 4 2 [.int p, .int x] M (sSees S p x) := by
  have hWb : S.1.1 0 ≤ 6 := hT.1.1
  have hLb : 0 < S.1.1 1 ∧ S.1.1 1 ≤ 24 := ⟨hT.1.2.1, hT.1.2.2.1⟩
  have hrb : S.1.1 2 ≤ 10 := hT.1.2.2.2.1
  have hnb : S.1.1 3 ≤ 8 := hT.1.2.2.2.2.1
  obtain ⟨⟨⟨a0, a1, a2, a3, a4, a5⟩, ⟨b1, b2, b3, b4, b5, b6⟩, kn⟩, him, tx, rf⟩ := id h
  refine zFun_of (by decide) oX4_sees tbX4 (Nat.le_of_ble_eq_true rfl) (fun Z o => ?_)
  refine o.run 100 [] ?_
  show Z _ _ _ _
  refine o.cV vX4_159 (m_isPerson (x := p) (by omega) a2) (fun w' rv _ hpo => ?_)
  obtain ⟨rfl, rfl⟩ := hpo
  refine o.run 100 [14] ⟨fun q => ?_, fun q => ?_⟩
  · have hp := zB_t q
    obtain ⟨ep, hpl⟩ := isN_cl (by omega) hp
    refine o.run 100 [25] ⟨fun q => ?_, fun q => ?_⟩
    · have h4 : ¬ x < 0 := Int32.not_lt.mpr q
      refine o.run 100 [39] ⟨fun q => ?_, fun q => ?_⟩
      · have h6 : ¬ nI 255 < x := Int32.not_lt.mpr q
        refine o.run 100 [] ⟨cl p, ep, by omega, cl p, ep, by omega, ?_⟩
        refine mret (A' := (M.2 5 (cl p), sW S (tX S.1 0 (upd (S.1.2.2.2.1 0) (cl p) x)))) ?_ (mR M 5 (upd (M.2 5) (cl p) x)) ?_
        · rw [sSees, if_pos hp, if_neg h4, if_neg h6, b5]
        · refine ⟨⟨⟨a0, a1, a2, a3, a4, a5⟩, ⟨b1, b2, b3, b4, ?_, b6⟩, kn⟩, him, tx, rf⟩
          show upd (M.2 5) (cl p) x = upd (S.1.2.2.2.1 0) (cl p) x
          rw [b5]
      · show Z 35 (mdW 0 M) _ [.int (-(nI 6)), .ref 0]
        exact o.mrf h (by omega) (by rw [sSees, if_pos hp, if_neg h4, if_pos (show nI 255 < x from Int32.not_le.mp q)])
    · show Z 21 (mdW 0 M) _ [.int (-(nI 4)), .ref 0]
      exact o.mrf h (by omega) (by rw [sSees, if_pos hp, if_pos (show x < 0 from Int32.not_le.mp q)])
  · show Z 10 (mdW 0 M) _ [.int (-(nI 1)), .ref 0]
    exact o.mrf h (by omega) (by rw [sSees, (zB_0 _).mp q]; rfl)
set_option maxRecDepth 10000 in
theorem m_show (h : repM M S) (hT : okT S.1 c) {x : Int32} : zPm l D C yX4_show cX4_show 3 1 [.int x] M (sShow S x) := by
  have hWb : S.1.1 0 ≤ 6 := hT.1.1
  have hLb : 0 < S.1.1 1 ∧ S.1.1 1 ≤ 24 := ⟨hT.1.2.1, hT.1.2.2.1⟩
  have hrb : S.1.1 2 ≤ 10 := hT.1.2.2.2.1
  have hnb : S.1.1 3 ≤ 8 := hT.1.2.2.2.2.1
  obtain ⟨⟨⟨a0, a1, a2, a3, a4, a5⟩, ⟨b1, b2, b3, b4, b5, b6⟩, kn⟩, him, tx, rf⟩ := id h
  refine zFun_of (by decide) oX4_show tbX4 (Nat.le_of_ble_eq_true rfl) (fun Z o => ?_)
  refine o.run 100 [11] ⟨fun q => ?_, fun q => ?_⟩
  · have h4 : ¬ x < 0 := Int32.not_lt.mpr q
    refine o.run 100 [24] ⟨fun q => ?_, fun q => ?_⟩
    · have h6 : ¬ nI 24 < x := Int32.not_lt.mpr q
      refine o.run 100 [] (mret (A' := (M.1 9, sW S (tN S.1 5 (cl x)))) ?_ (mN M 9 x) ?_)
      · rw [sShow, if_neg h4, if_neg h6, a3]
      · refine ⟨⟨⟨a0, a1, a2, ?_, a4, a5⟩, ⟨b1, b2, b3, b4, b5, b6⟩, kn⟩, him, tx, rf⟩
        obtain ⟨k, hk, rfl⟩ := nI_of h4
        show nI k = nI (cl (nI k))
        rw [show cl (nI k) = k from nI_clamp (by omega)]
    · show Z 20 (mdW 0 M) _ [.int (-(nI 6)), .ref 0]
      exact o.mrf h (by omega) (by rw [sShow, if_neg h4, if_pos (show nI 24 < x from Int32.not_le.mp q)])
  · show Z 7 (mdW 0 M) _ [.int (-(nI 4)), .ref 0]
    exact o.mrf h (by omega) (by rw [sShow, if_pos (show x < 0 from Int32.not_le.mp q)])
set_option maxRecDepth 10000 in
theorem m_of (h : repM M S) (hT : okT S.1 c) (hc : c ≤ 100) {p w : Int32} : zPm l D C yX4_of cX4_of 3 2 [.int p, .int w] M (sOf S p w) := by
  have hWb : S.1.1 0 ≤ 6 := hT.1.1
  have hLb : 0 < S.1.1 1 ∧ S.1.1 1 ≤ 24 := ⟨hT.1.2.1, hT.1.2.2.1⟩
  have hrb : S.1.1 2 ≤ 10 := hT.1.2.2.2.1
  have hnb : S.1.1 3 ≤ 8 := hT.1.2.2.2.2.1
  obtain ⟨⟨⟨a0, a1, a2, a3, a4, a5⟩, ⟨b1, b2, b3, b4, b5, b6⟩, kn⟩, him, tx, rf⟩ := id h
  refine zFun_of (by decide) oX4_of tbX4 (Nat.le_of_ble_eq_true rfl) (fun Z o => ?_)
  have hy30 : S.1.1 4 < 2 ^ 30 := by have := hT.1.2.2.2.2.2.1; omega
  refine o.run 100 [] ?_
  show Z _ _ _ _
  refine o.cV vX4_159 (m_isPerson (x := p) (by omega) a2) (fun w' rv _ hpo => ?_)
  obtain ⟨rfl, rfl⟩ := hpo
  refine o.run 100 [14] ⟨fun q => ?_, fun q => ?_⟩
  · have hp := zB_t q
    obtain ⟨ep, hpl⟩ := isN_cl (by omega) hp
    refine o.run 100 [48, 55, 62, 69, 98, 105] ⟨⟨fun a => ?_, fun a => ?_, fun a => ?_, fun a => ?_, fun a => ?_, trivial⟩, fun a => ?_⟩
    · have a : w = nI 0 := a
      refine o.run 100 [] ⟨cl p, ep, by omega, mret (A' := (M.2 3 (cl p), S)) ?_ M h⟩
      rw [sOf, if_pos hp, if_pos a, b3]
    · have a : w = nI 1 := a
      refine o.run 100 [] ⟨cl p, ep, by omega, mret (A' := (M.2 4 (cl p), S)) ?_ M h⟩
      subst a
      rw [sOf, if_pos hp, if_neg (by decide), if_pos rfl, b4]
    · have a : w = nI 2 := a
      refine o.run 100 [] ⟨cl p, ep, by omega, mret (A' := (M.2 5 (cl p), S)) ?_ M h⟩
      subst a
      rw [sOf, if_pos hp, if_neg (by decide), if_neg (by decide), if_pos rfl, b5]
    · have a : w = nI 3 := a
      have hd2 := hT.2.2.1
      refine o.run 100 [] ⟨cl p, ep, by omega, ?_, S.1.1 4 % S.1.1 1, ?_, ?_, S.1.2.2.1 1 (cl p) * 4 + S.1.2.2.1 0 (S.1.1 4 % S.1.1 1), ?_, ?_, mret (A' := (M.2 1 (S.1.2.2.1 1 (cl p) * 4 + S.1.2.2.1 0 (S.1.1 4 % S.1.1 1)), S)) ?_ M h⟩
      · show ¬ M.1 3 = 0
        rw [a1]; exact nI_ne0 hLb.1 (by omega)
      · show M.1 10 - M.1 10 / M.1 3 * M.1 3 = _
        rw [a1, a4]; exact pk_rem (by omega) hLb.1 (by omega)
      · have := Nat.mod_lt (S.1.1 4) hLb.1; omega
      · show nI 4 * M.2 3 (cl p) + M.2 2 (S.1.1 4 % S.1.1 1) = _
        rw [b3, b2]; exact ix4 _ _
      · have := (hd2 (cl p)).2.1
        have := (hd2 (S.1.1 4 % S.1.1 1)).1
        omega
      · subst a
        rw [sOf, if_pos hp, if_neg (by decide), if_neg (by decide), if_neg (by decide), if_pos rfl, b1]
        rfl
    · have a : w = nI 4 := a
      refine o.run 100 [] ⟨cl p, ep, by omega, mret (A' := (M.2 6 (cl p), S)) ?_ M h⟩
      subst a
      rw [sOf, if_pos hp, if_neg (by decide), if_neg (by decide), if_neg (by decide), if_neg (by decide), if_pos rfl, b6]
    · refine o.run 100 [] ?_
      show Z 108 (mdW 0 M) _ [.int (-(nI 2)), .ref 0]
      exact o.mrf h (by omega) (sOf_d hp a)
  · show Z 10 (mdW 0 M) _ [.int (-(nI 1)), .ref 0]
    exact o.mrf h (by omega) (by rw [sOf, (zB_0 _).mp q]; rfl)
set_option maxRecDepth 10000 in
theorem m_share (h : repM M S) (hT : okT S.1 c) {w : Int32} : zPm l D C yX4_share cX4_share 4 2 [.int w] M (sShare S w) := by
  have hWb : S.1.1 0 ≤ 6 := hT.1.1
  have hLb : 0 < S.1.1 1 ∧ S.1.1 1 ≤ 24 := ⟨hT.1.2.1, hT.1.2.2.1⟩
  have hrb : S.1.1 2 ≤ 10 := hT.1.2.2.2.1
  have hnb : S.1.1 3 ≤ 8 := hT.1.2.2.2.2.1
  obtain ⟨⟨⟨a0, a1, a2, a3, a4, a5⟩, ⟨b1, b2, b3, b4, b5, b6⟩, kn⟩, him, tx, rf⟩ := id h
  refine zFun_of (by decide) oX4_share tbX4 (Nat.le_of_ble_eq_true rfl) (fun Z o => ?_)
  refine o.run 100 [] ?_
  show Z _ _ _ _
  refine o.cV vX4_100 (m_isWay (x := w) (by omega) a0) (fun w' rv _ hpo => ?_)
  obtain ⟨rfl, rfl⟩ := hpo
  refine o.run 100 [14] ⟨fun q => ?_, fun q => ?_⟩
  · have hp := zB_t q
    obtain ⟨ep, hpl⟩ := isN_cl (by omega) hp
    have hd2 := hT.2.2.1
    have loop : ∀ j k, k + j = S.1.1 3 → Z 18 (mdW 0 M) [some (.ref 0), some (.int w), some (.int (nI (cnt (fun p => decide (S.1.2.2.1 1 p = cl w)) k))), some (.int (nI k))] [] := by
      intro j
      induction j with
      | zero =>
        intro k hk
        obtain rfl : k = S.1.1 3 := by omega
        exact o.run 100 [] ⟨fun _ => mret (A' := (nI (cnt (fun p => decide (S.1.2.2.1 1 p = cl w)) (S.1.1 3)), S)) (by rw [sShare, if_pos hp]) M h, fun q => absurd (by show M.1 4 ≤ _; rw [a2]; exact nI_le (Nat.le_refl _) (by omega)) q⟩
      | succ j ih =>
        intro k hk
        have hv := (hd2 k).2.1
        refine o.run 100 [18] ⟨fun q => absurd q (by show ¬ M.1 4 ≤ _; rw [a2]; exact nI_ge (by omega) (by omega)), fun _ => ⟨k, rfl, by omega, fun q => ?_, fun q => ?_⟩⟩
        · have q : ¬ M.2 3 k = w := q
          have := ih (k + 1) (by omega)
          have hn : ¬ S.1.2.2.1 1 k = cl w := fun z => q (by rw [b3]; show nI (S.1.2.2.1 1 k) = w; rw [z]; exact ep.symm)
          rw [cnt, if_neg (by simpa using hn), ← nI_1 k] at this
          have e0 : nI (cnt (fun p => decide (S.1.2.2.1 1 p = cl w)) k + 0) = nI (cnt (fun p => decide (S.1.2.2.1 1 p = cl w)) k) + nI 0 := (nI_add _ _).symm
          rw [e0] at this
          exact this
        · have q : M.2 3 k = w := q
          have := ih (k + 1) (by omega)
          have hn : S.1.2.2.1 1 k = cl w := by
            rw [b3] at q
            have q : nI (S.1.2.2.1 1 k) = w := q
            rw [← q]
            exact (nI_clamp (by omega)).symm
          rw [cnt, if_pos (by simpa using hn), ← nI_1 k, ← nI_1] at this
          exact this
    exact o.run 100 [18] (loop (S.1.1 3) 0 (by omega))
  · show Z 10 (mdW 0 M) _ [.int (-(nI 1)), .ref 0]
    exact o.mrf h (by omega) (by rw [sShare, (zB_0 _).mp q]; rfl)
set_option maxRecDepth 10000 in
theorem m_count (h : repM M S) (hT : okT S.1 c) {w : Int32} : zPm l D C yX4_count cX4_count 4 1 [.int w] M (sCount S w) := by
  have hWb : S.1.1 0 ≤ 6 := hT.1.1
  have hLb : 0 < S.1.1 1 ∧ S.1.1 1 ≤ 24 := ⟨hT.1.2.1, hT.1.2.2.1⟩
  have hrb : S.1.1 2 ≤ 10 := hT.1.2.2.2.1
  have hnb : S.1.1 3 ≤ 8 := hT.1.2.2.2.2.1
  obtain ⟨⟨⟨a0, a1, a2, a3, a4, a5⟩, ⟨b1, b2, b3, b4, b5, b6⟩, kn⟩, him, tx, rf⟩ := id h
  refine zFun_of (by decide) oX4_count tbX4 (Nat.le_of_ble_eq_true rfl) (fun Z o => ?_)
  refine o.run 100 [48, 53, 58, 63, 68, 73, 78, 107, 112] ⟨⟨fun a => ?_, fun a => ?_, fun a => ?_, fun a => ?_, fun a => ?_, fun a => ?_, fun a => ?_, fun a => ?_, trivial⟩, fun a => ?_⟩
  · obtain rfl : w = nI 0 := a
    refine o.run 100 [] (mret (A' := (M.1 0, S)) ?_ M h)
    rw [sCount, if_pos rfl, a0]
  · obtain rfl : w = nI 1 := a
    refine o.run 100 [] (mret (A' := (M.1 4, S)) ?_ M h)
    rw [sCount, if_neg (by decide), if_pos rfl, a2]
  · obtain rfl : w = nI 2 := a
    refine o.run 100 [] (mret (A' := (M.1 11, S)) ?_ M h)
    rw [sCount, if_neg (by decide), if_neg (by decide), if_pos rfl, a5]
  · obtain rfl : w = nI 3 := a
    refine o.run 100 [] (mret (A' := (M.1 10, S)) ?_ M h)
    rw [sCount, if_neg (by decide), if_neg (by decide), if_neg (by decide), if_pos rfl, a4]
  · obtain rfl : w = nI 4 := a
    refine o.run 100 [] (mret (A' := (M.1 3, S)) ?_ M h)
    rw [sCount, if_neg (by decide), if_neg (by decide), if_neg (by decide), if_neg (by decide), if_pos rfl, a1]
  · obtain rfl : w = nI 5 := a
    refine o.run 100 [] (mret (A' := (M.1 9, S)) ?_ M h)
    rw [sCount, if_neg (by decide), if_neg (by decide), if_neg (by decide), if_neg (by decide), if_neg (by decide), if_pos rfl, a3]
  · obtain rfl : w = nI 6 := a
    have loop : ∀ j k, k + j = S.1.1 3 → Z 82 (mdW 0 M) [some (.ref 0), some (.int (nI 6)), some (.int (sm (M.2 6) k)), some (.int (nI k))] [] := by
      intro j
      induction j with
      | zero =>
        intro k hk
        obtain rfl : k = S.1.1 3 := by omega
        refine o.run 100 [] ⟨fun _ => mret (A' := (sm (M.2 6) (S.1.1 3), S)) ?_ M h, fun q => absurd (by show M.1 4 ≤ _; rw [a2]; exact nI_le (Nat.le_refl _) (by omega)) q⟩
        rw [sCount, if_neg (by decide), if_neg (by decide), if_neg (by decide), if_neg (by decide), if_neg (by decide), if_neg (by decide), if_pos rfl, b6]
      | succ j ih =>
        intro k hk
        refine o.run 100 [82] ⟨fun q => absurd q (by show ¬ M.1 4 ≤ _; rw [a2]; exact nI_ge (by omega) (by omega)), fun _ => ⟨k, rfl, by omega, ?_⟩⟩
        have := ih (k + 1) (by omega)
        rw [sm, ← nI_1 k] at this
        exact this
    exact o.run 100 [82] (loop (S.1.1 3) 0 (by omega))
  · obtain rfl : w = nI 7 := a
    refine o.run 100 [] (mret (A' := (M.1 18, S)) ?_ M h)
    rw [sCount, if_neg (by decide), if_neg (by decide), if_neg (by decide), if_neg (by decide), if_neg (by decide), if_neg (by decide), if_neg (by decide), if_pos rfl, tx.1]
  · have hs := sCount_d (S := S) a
    refine o.run 100 [] ?_
    show Z _ _ _ _
    refine o.cS vX4_84 (m_in (x := w.toInt64) (a := lN 11) (b := lN 16)) (fun rv hpo => ?_)
    subst hpo
    have hi := in_lit (x := w) (a := 11) (b := 16) (by omega) (by omega)
    refine o.run 100 [126, 138] ⟨fun q => ?_, fun q => ?_⟩
    · have hf : ¬ (nI 11 ≤ w ∧ w ≤ nI 16) := fun z => of_decide_eq_false ((zB_0 _).mp q) (hi.mpr z)
      show Z 138 (mdW 0 M) [some (.ref 0), some (.int w), none, none] []
      have es : sCount S w = (zi (-9), S) := by rw [hs, if_neg hf]
      refine o.run 100 [] ⟨⟨_, rfl, rfl⟩, rfl, ⟨M, rfl, ?_⟩, ?_⟩
      · rw [es]; exact h
      · rw [es]
    · have hp : nI 11 ≤ w ∧ w ≤ nI 16 := hi.mp (of_decide_eq_true (zB_t q))
      have h0 : ¬ w < 0 := fun z => Int32.not_le.mpr (Int32.lt_trans z (by decide : (0 : Int32) < nI 11)) hp.1
      obtain ⟨k, hk, rfl⟩ := nI_of h0
      have hp' := hp
      rw [nI_leI (by omega) (by omega), nI_leI (by omega) (by omega)] at hp'
      refine o.run 100 [] ⟨k - 10, by show nI k - nI 10 = _; rw [pk_sub (by omega)], by omega, mret (A' := (M.2 13 (k - 10), S)) ?_ M h⟩
      rw [hs, if_pos hp, rf, show cl (nI k) = k from nI_clamp (by omega)]
end MP2
