/-! the reference's rule(), 2 -/
section PMQ
variable {f : Nat → Int32} {len p p2 p3 : Nat} {R : Nat → Nat × Option zDn} {a b : zDn}
theorem pM_0 (h : ¬ (¬ (rdN f len (p + 1)).2 = 0 ∧ hrC f len (rdN f len (p + 1)).1 = nI 63)) : pM f len R p = ((rdN f len (p + 1)).1, none) := by
  unfold pM
  by_cases h0 : (rdN f len (p + 1)).2 = 0
  · rw [if_pos h0]
  · rw [if_neg h0, if_neg (fun z => h ⟨h0, z⟩)]
theorem pM_1 (h : ¬ (rdN f len (p + 1)).2 = 0 ∧ hrC f len (rdN f len (p + 1)).1 = nI 63) (e : R ((rdN f len (p + 1)).1 + 1) = (p2, none)) : pM f len R p = (p2, none) := by
  unfold pM
  rw [if_neg h.1, if_pos h.2, e]
theorem pM_2 (h : ¬ (rdN f len (p + 1)).2 = 0 ∧ hrC f len (rdN f len (p + 1)).1 = nI 63) (e : R ((rdN f len (p + 1)).1 + 1) = (p2, some a)) (hc : ¬ hrC f len p2 = nI 58) : pM f len R p = (p2, none) := by
  unfold pM
  rw [if_neg h.1, if_pos h.2, e]
  show (if hrC f len p2 = nI 58 then _ else (p2, none)) = _
  rw [if_neg hc]
theorem pM_3 (h : ¬ (rdN f len (p + 1)).2 = 0 ∧ hrC f len (rdN f len (p + 1)).1 = nI 63) (e : R ((rdN f len (p + 1)).1 + 1) = (p2, some a)) (hc : hrC f len p2 = nI 58) (e2 : R (p2 + 1) = (p3, none)) : pM f len R p = (p3, none) := by
  unfold pM
  rw [if_neg h.1, if_pos h.2, e]
  show (if hrC f len p2 = nI 58 then _ else (p2, none)) = _
  rw [if_pos hc, e2]
theorem pM_4 (h : ¬ (rdN f len (p + 1)).2 = 0 ∧ hrC f len (rdN f len (p + 1)).1 = nI 63) (e : R ((rdN f len (p + 1)).1 + 1) = (p2, some a)) (hc : hrC f len p2 = nI 58) (e2 : R (p2 + 1) = (p3, some b)) (hc2 : ¬ hrC f len p3 = nI 41) : pM f len R p = (p3, none) := by
  unfold pM
  rw [if_neg h.1, if_pos h.2, e]
  show (if hrC f len p2 = nI 58 then _ else (p2, none)) = _
  rw [if_pos hc, e2]
  show (if hrC f len p3 = nI 41 then _ else (p3, none)) = _
  rw [if_neg hc2]
theorem pM_5 (h : ¬ (rdN f len (p + 1)).2 = 0 ∧ hrC f len (rdN f len (p + 1)).1 = nI 63) (e : R ((rdN f len (p + 1)).1 + 1) = (p2, some a)) (hc : hrC f len p2 = nI 58) (e2 : R (p2 + 1) = (p3, some b)) (hc2 : hrC f len p3 = nI 41) : pM f len R p = (p3 + 1, some (fun x => if x < nI (rdN f len (p + 1)).2 then a x else b x)) := by
  unfold pM
  rw [if_neg h.1, if_pos h.2, e]
  show (if hrC f len p2 = nI 58 then _ else (p2, none)) = _
  rw [if_pos hc, e2]
  show (if hrC f len p3 = nI 41 then _ else (p3, none)) = _
  rw [if_pos hc2]
end PMQ
section MRV
variable {l : Launch} {D : va_G} {C : zC} {f : Nat → Int32} {len base : Nat} {Kr : zS → Option Value → Prop} {Z : zP}
theorem rdN_ge {f : Nat → Int32} {len p : Nat} : p ≤ (rdN f len p).1 := by
  unfold rdN
  split
  · split
    · show p ≤ p + 2; omega
    · show p ≤ p + 1; omega
  · exact Nat.le_refl _
theorem pz_parse (o : zOps l D C RX4 kX4_rule (zfl FX4) (zkI IX4) (zkJ JX4) 3 Kr Z) (hl : len ≤ 24) (hbase : base ≤ 216) : ∀ (d p kn : Nat) (st : List (Nat × Bool)) (M : zM) (x : Option Value), st.length + d = 4 → rinv M f len p kn st → cBad Z base (base + kn) M (pR f len d p) → cOk Z f len base kn st M d (pR f len d p) → Z 59 (mdW 0 M) [some (.ref 0), some (.int (nI base)), some (.int (zi (-1))), x] []
  | 0, p, kn, st, M, x, hd, h, hbad, hok => by
    refine pz_step o (alt := (p, none)) (d := 0) hl hbase (by omega) h hbad hok (fun c3 => ?_)
    obtain ⟨e12, e20, e21, e22, e23, e26, hs, h1, h2⟩ := id h
    obtain ⟨n1, n2, n3, n4⟩ := ro_ne c3 (by omega) (by omega)
    have c1 : ¬ (hrC f len p = nI 115 ∨ hrC f len p = nI 98 ∨ hrC f len p = nI 109 ∨ hrC f len p = nI 110) := fun z => z.elim n1 (fun z => z.elim n2 (fun z => z.elim n3 n4))
    have c2 : ¬ hrC f len p = nI 116 := by rw [c3]; exact nI_ne (by omega) (by omega) (by omega)
    have er : pR f len 0 p = (p, none) := by
      show pS f len p (p, none) = _
      unfold pS; rw [if_neg c1, if_neg c2, if_pos c3]
    rw [er] at hbad
    refine pz_head o e22 ?_
    refine o.cV vX4_150 (m_ro_bad (M := M) hl h2 e12 e20 e21 (base := base) e26 (by omega) c1 c2 (fun _ => by omega)) (fun w' rv _ hpo => ?_)
    obtain ⟨rfl, rfl⟩ := hpo
    have e22' : ¬ (mN M 22 (nI 1)).1 22 = 0 := by show ¬ nI 1 = 0; decide
    exact pz_bad o e22' (hbad rfl _ _ _ (rfr_N (rfr_rf _ _) (by omega) (by omega)) e20 e22')
  | d + 1, p, kn, st, M, x, hd, h, hbad, hok => by
    refine pz_step o (alt := pM f len (pR f len d) p) (d := d + 1) hl hbase (by omega) h hbad hok (fun c3 => ?_)
    obtain ⟨e12, e20, e21, e22, e23, e26, hs, h1, h2⟩ := id h
    obtain ⟨n1, n2, n3, n4⟩ := ro_ne c3 (by omega) (by omega)
    have c1 : ¬ (hrC f len p = nI 115 ∨ hrC f len p = nI 98 ∨ hrC f len p = nI 109 ∨ hrC f len p = nI 110) := fun z => z.elim n1 (fun z => z.elim n2 (fun z => z.elim n3 n4))
    have c2 : ¬ hrC f len p = nI 116 := by rw [c3]; exact nI_ne (by omega) (by omega) (by omega)
    have hlt : p < len := hr_lt (by omega) c3
    have er : pR f len (d + 1) p = pM f len (pR f len d) p := by
      show pS f len p (pM f len (pR f len d) p) = _
      unfold pS; rw [if_neg c1, if_neg c2, if_pos c3]
    rw [er] at hbad hok
    have hr1 := rdN_le (f := f) (len := len) (p := p + 1) hlt
    have hr2 := rdN_ge (f := f) (len := len) (p := p + 1)
    refine pz_head o e22 ?_
    refine o.cV vX4_150 (m_ro_open (M := M) hl h2 e12 e20 e21 (base := base) (kn := kn) (by omega) e23 e26 (by omega) c3) (fun w' rv _ hpo => ?_)
    obtain ⟨rfl, rfl⟩ := hpo
    by_cases hg : ¬ (rdN f len (p + 1)).2 = 0 ∧ hrC f len (rdN f len (p + 1)).1 = nI 63
    · rw [if_pos hg]
      have hlt1 : (rdN f len (p + 1)).1 < len := hr_lt (by omega) hg.2
      refine pz_open o ?_
      obtain ⟨M1, hM1⟩ : ∃ M1, M1 = opM M f len p kn st.length base := ⟨_, rfl⟩
      have f1 : rfr (base + kn) M M1 := by
        rw [hM1]
        exact rfr_N (rfr_R (rfr_R (rfr_nk (rfr_tk (rfr_rn (rfr_N (rfr_rf _ _) (by omega) (by omega)))) (Nat.le_refl _)) (by omega) (by omega)) (by omega) (by omega)) (by omega) (by omega)
      have k8 : M1.2 8 (base + kn) = nI 40 := by rw [hM1]; exact upd_at _ _ _
      have k9 : M1.2 9 (base + kn) = nI (rdN f len (p + 1)).2 := by rw [hM1]; exact upd_at _ _ _
      have I1 : rinv M1 f len ((rdN f len (p + 1)).1 + 1) (kn + 1) ((base + kn, false) :: st) := by
        rw [hM1]
        exact ⟨e12, rfl, e21, rfl, rfl, rfl, ⟨upd_at _ _ _, upd_at _ _ _, by omega, stk_c (M := M) (fun j hj => ⟨upd_no _ _ (by omega), upd_no _ _ (by omega)⟩) hs⟩, by omega, hlt1⟩
      rw [← hM1]
      have hd1 : ((base + kn, false) :: st).length + d = 4 := by show st.length + 1 + d = 4; omega
      rcases hR1 : pR f len d ((rdN f len (p + 1)).1 + 1) with ⟨p2, o1⟩
      refine pz_parse o hl hbase d ((rdN f len (p + 1)).1 + 1) (kn + 1) ((base + kn, false) :: st) M1 _ hd1 I1 ?_ ?_
      · rw [hR1]
        intro h0 M' root x' g1 g2 g3
        have h0 : o1 = none := h0
        subst h0
        rw [pM_1 hg hR1] at hbad
        exact hbad rfl M' root x' (rfr_tr f1 g1 (by omega)) g2 g3
      · rw [hR1]
        intro ga h0 M2 i kn1 x' f2 I2 hk1 K1
        have h0 : o1 = some ga := h0
        subst h0
        obtain ⟨a12, a20, a21, a22, a23, a26, as, a1, a2⟩ := id I2
        have a20 : M2.1 20 = nI p2 := a20
        have a1 : kn1 ≤ p2 := a1
        have a2 : p2 ≤ len := a2
        show Z 96 (mdW 0 (mR (tkM (mR M2 10 (upd (M2.2 10) (base + kn) (nI i))) p2 (decide (hrC f len p2 = nI 58))) 15 (upd (M2.2 15) st.length (nI 1)))) _ [.int (zi (-1))]
        have f3 : ∀ b, rfr (base + kn) M2 (mR (tkM (mR M2 10 (upd (M2.2 10) (base + kn) (nI i))) p2 b) 15 (upd (M2.2 15) st.length (nI 1))) := fun b => rfr_R (rfr_tk (rfr_K (k := 10) (rfr_rf _ _) (by omega) (Nat.le_refl _))) (by omega) (by omega)
        by_cases c58 : hrC f len p2 = nI 58
        · rw [decide_eq_true c58]
          have hlt2 : p2 < len := hr_lt (by omega) c58
          refine pz_96 o ?_
          obtain ⟨M3, hM3⟩ : ∃ M3, M3 = mR (tkM (mR M2 10 (upd (M2.2 10) (base + kn) (nI i))) p2 true) 15 (upd (M2.2 15) st.length (nI 1)) := ⟨_, rfl⟩
          have f3 := f3 true
          have k8' : M3.2 8 = M2.2 8 := by rw [hM3]; rfl
          have k9' : M3.2 9 = M2.2 9 := by rw [hM3]; rfl
          have k10' : M3.2 10 = upd (M2.2 10) (base + kn) (nI i) := by rw [hM3]; rfl
          have k11' : M3.2 11 = M2.2 11 := by rw [hM3]; rfl
          have I3 : rinv M3 f len (p2 + 1) kn1 ((base + kn, true) :: st) := by
            rw [hM3]
            exact ⟨a12, rfl, a21, rfl, a23, a26, ⟨as.1, upd_at _ _ _, as.2.2.1, stk_c (M := M2) (fun j hj => ⟨rfl, upd_no _ _ (by omega)⟩) as.2.2.2⟩, by omega, hlt2⟩
          rw [← hM3] at f3 ⊢
          have hd2 : ((base + kn, true) :: st).length + d = 4 := by show st.length + 1 + d = 4; omega
          rcases hR2 : pR f len d (p2 + 1) with ⟨p3, o2⟩
          refine pz_parse o hl hbase d (p2 + 1) kn1 ((base + kn, true) :: st) M3 _ hd2 I3 ?_ ?_
          · rw [hR2]
            intro h0 M' root x' g1 g2 g3
            have h0 : o2 = none := h0
            subst h0
            rw [pM_3 hg hR1 c58 hR2] at hbad
            exact hbad rfl M' root x' (rfr_tr (rfr_tr (rfr_tr f1 f2 (by omega)) f3 (Nat.le_refl _)) g1 (by omega)) g2 g3
          · rw [hR2]
            intro gb h0 M4 j kn2 x' f4 I4 hk2 K2
            have h0 : o2 = some gb := h0
            subst h0
            obtain ⟨b12, b20, b21, b22, b23, b26, bs, b1, b2⟩ := id I4
            have b20 : M4.1 20 = nI p3 := b20
            have b1 : kn2 ≤ p3 := b1
            have b2 : p3 ≤ len := b2
            have f5 : ∀ b, rfr (base + kn) M4 (mN (tkM (mR M4 11 (upd (M4.2 11) (base + kn) (nI j))) p3 b) 26 (nI st.length)) := fun b => rfr_N (rfr_tk (rfr_K (k := 11) (rfr_rf _ _) (by omega) (Nat.le_refl _))) (by omega) (by omega)
            have f14 : rfr (base + kn) M M4 := rfr_tr (rfr_tr (rfr_tr f1 f2 (by omega)) f3 (Nat.le_refl _)) f4 (by omega)
            by_cases c41 : hrC f len p3 = nI 41
            · have hlt3 : p3 < len := hr_lt (by omega) c41
              have ec : clo f len ((base + kn, true) :: st) M4 p3 j = clo f len st (mN (tkM (mR M4 11 (upd (M4.2 11) (base + kn) (nI j))) p3 true) 26 (nI st.length)) (p3 + 1) (base + kn) := by rw [clo, if_pos c41]
              show Z 96 (mdW 0 (clo f len ((base + kn, true) :: st) M4 p3 j).1) _ [.int (clo f len ((base + kn, true) :: st) M4 p3 j).2]
              rw [ec]
              rw [pM_5 hg hR1 c58 hR2 c41] at hok
              obtain ⟨M5, hM5⟩ : ∃ M5, M5 = mN (tkM (mR M4 11 (upd (M4.2 11) (base + kn) (nI j))) p3 true) 26 (nI st.length) := ⟨_, rfl⟩
              have f5 := f5 true
              have m8 : M5.2 8 = M4.2 8 := by rw [hM5]; rfl
              have m9 : M5.2 9 = M4.2 9 := by rw [hM5]; rfl
              have m10 : M5.2 10 = M4.2 10 := by rw [hM5]; rfl
              have m11 : M5.2 11 = upd (M4.2 11) (base + kn) (nI j) := by rw [hM5]; rfl
              have I5 : rinv M5 f len (p3 + 1) kn2 st := by
                rw [hM5]
                exact ⟨b12, rfl, b21, rfl, b23, rfl, stk_c (M := M4) (fun j hj => ⟨rfl, rfl⟩) bs.2.2.2, by omega, hlt3⟩
              rw [← hM5] at f5 ⊢
              refine hok _ rfl M5 (base + kn) kn2 _ (rfr_tr f14 f5 (by omega)) I5 (by omega) (Or.inr ⟨⟨by omega, by omega⟩, ?_, (rdN f len (p + 1)).2, i, j, ga, gb, ?_, hr1.2, ?_, ?_, KB_c (by omega) (by omega) ?_ ?_ ?_ ?_ K1, KB_c (by omega) (by omega) ?_ ?_ ?_ ?_ K2, rfl⟩)
              · rw [m8, f4.2.2 8 _ (by omega) (by omega) (by omega), k8', f2.2.2 8 _ (by omega) (by omega) (by omega), k8]
              · rw [m9, f4.2.2 9 _ (by omega) (by omega) (by omega), k9', f2.2.2 9 _ (by omega) (by omega) (by omega), k9]
              · rw [m10, f4.2.2 10 _ (by omega) (by omega) (by omega), k10', upd_at]
              · rw [m11, upd_at]
              · intro u h1 h2; rw [m8, f4.2.2 8 _ (by omega) (by omega) h2, k8']
              · intro u h1 h2; rw [m9, f4.2.2 9 _ (by omega) (by omega) h2, k9']
              · intro u h1 h2; rw [m10, f4.2.2 10 _ (by omega) (by omega) h2, k10', upd_no _ _ (by omega)]
              · intro u h1 h2; rw [m11, upd_no _ _ (by omega), f4.2.2 11 _ (by omega) (by omega) h2, k11']
              · intro u h1 h2; rw [m8]
              · intro u h1 h2; rw [m9]
              · intro u h1 h2; rw [m10]
              · intro u h1 h2; rw [m11, upd_no _ _ (by omega)]
            · have ec : clo f len ((base + kn, true) :: st) M4 p3 j = (mN (tkM (mR M4 11 (upd (M4.2 11) (base + kn) (nI j))) p3 false) 26 (nI st.length), nI (base + kn)) := by rw [clo, if_neg c41]
              show Z 96 (mdW 0 (clo f len ((base + kn, true) :: st) M4 p3 j).1) _ [.int (clo f len ((base + kn, true) :: st) M4 p3 j).2]
              rw [ec]
              rw [pM_4 hg hR1 c58 hR2 c41] at hbad
              have e22' : ¬ (mN (tkM (mR M4 11 (upd (M4.2 11) (base + kn) (nI j))) p3 false) 26 (nI st.length)).1 22 = 0 := by show ¬ zB (!false) = 0; decide
              exact pz_96b o e22' (hbad rfl _ _ _ (rfr_tr f14 (f5 false) (by omega)) rfl e22')
        · rw [decide_eq_false c58]
          rw [pM_2 hg hR1 c58] at hbad
          have e22' : ¬ (mR (tkM (mR M2 10 (upd (M2.2 10) (base + kn) (nI i))) p2 false) 15 (upd (M2.2 15) st.length (nI 1))).1 22 = 0 := by show ¬ zB (!false) = 0; decide
          exact pz_96b o e22' (hbad rfl _ _ _ (rfr_tr (rfr_tr f1 f2 (by omega)) (f3 false) (Nat.le_refl _)) rfl e22')
    · rw [if_neg hg]
      rw [pM_0 hg] at hbad
      have e22' : ¬ (opB M f len p st.length).1 22 = 0 := by show ¬ zB (!false) = 0; decide
      exact pz_bad o e22' (hbad rfl _ _ _ (rfr_N (rfr_R (rfr_R (rfr_tk (rfr_rn (rfr_N (rfr_rf _ _) (by omega) (by omega)))) (by omega) (by omega)) (by omega) (by omega)) (by omega) (by omega)) rfl e22')
end MRV
section MP7
variable {l : Launch} {D : va_G} {C : zC} {M : zM} {S : zF} {c : Nat}
/-- behind reading: what lasts is as it was, but the text is gone -/
theorem repM_rd {M M' : zM} {S : zF} (h : repM M S) (e : rfr (24 * S.1.1 2) (mN M 18 (nI 0)) M') : repM M' (S.1, S.2.1, (0, S.2.2.1.2), S.2.2.2) := by
  obtain ⟨⟨⟨a0, a1, a2, a3, a4, a5⟩, ⟨b1, b2, b3, b4, b5, b6⟩, kn⟩, him, tx, rf⟩ := h
  obtain ⟨e1, e2, e3⟩ := e
  refine ⟨⟨⟨?_, ?_, ?_, ?_, ?_, ?_⟩, ⟨?_, ?_, ?_, ?_, ?_, ?_⟩, ?_⟩, ?_, ⟨?_, Nat.zero_le _, fun j hj => absurd hj (Nat.not_lt_zero j)⟩, ?_⟩
  · rw [e1 0 (by omega)]; exact a0
  · rw [e1 3 (by omega)]; exact a1
  · rw [e1 4 (by omega)]; exact a2
  · rw [e1 9 (by omega)]; exact a3
  · rw [e1 10 (by omega)]; exact a4
  · rw [e1 11 (by omega)]; exact a5
  · rw [e2 1 (by omega)]; exact b1
  · rw [e2 2 (by omega)]; exact b2
  · rw [e2 3 (by omega)]; exact b3
  · rw [e2 4 (by omega)]; exact b4
  · rw [e2 5 (by omega)]; exact b5
  · rw [e2 6 (by omega)]; exact b6
  · intro r hr
    have hr : r < S.1.1 2 := hr
    obtain ⟨i, d, g1, g2⟩ := kn r hr
    exact ⟨i, d, by rw [e2 7 (by omega)]; exact g1, KN_c (fun j _ j2 => e3 8 j (by omega) (by omega) (by omega)) (fun j _ j2 => e3 9 j (by omega) (by omega) (by omega)) (fun j _ j2 => e3 10 j (by omega) (by omega) (by omega)) (fun j _ j2 => e3 11 j (by omega) (by omega) (by omega)) g2⟩
  · rw [e1 39 (by omega), e2 21 (by omega)]; exact him
  · rw [e1 18 (by omega)]; rfl
  · rw [e2 13 (by omega)]; exact rf
set_option maxRecDepth 10000 in
theorem m_rule (h : repM M S) (hT : okT S.1 c) : zPm l D C yX4_rule cX4_rule 4 3 [] M (sRule S) := by
  have hrb : S.1.1 2 ≤ 10 := hT.1.2.2.2.1
  obtain ⟨⟨⟨a0, a1, a2, a3, a4, a5⟩, ⟨b1, b2, b3, b4, b5, b6⟩, kn⟩, him, ⟨t0, t1, t2⟩, rf⟩ := id h
  refine zFun_of (by decide) oX4_rule tbX4 (Nat.le_of_ble_eq_true rfl) (fun Z o => ?_)
  by_cases h10 : S.1.1 2 = 10
  · refine o.run 100 [16] ⟨fun q => absurd (show M.1 11 = nI 10 by rw [a5, h10]) q, fun _ => ?_⟩
    show Z 12 (mdW 0 M) _ [.int (-(nI 6)), .ref 0]
    exact o.mrf h (by omega) (by rw [sRule, if_pos h10])
  refine o.run 100 [16] ⟨fun _ => ?_, fun q => absurd (show M.1 11 = nI 10 from q) (by rw [a5]; exact nI_ne (by omega) (by omega) h10)⟩
  have eA : pA (M.2 12) S.2.2.1.1 = pA S.2.2.1.2 S.2.2.1.1 := pA_c t2
  obtain ⟨N, hN⟩ : ∃ N, N = mN (mN (mN (mN (mN (mN M 20 (nI 0)) 21 (M.1 18)) 18 (nI 0)) 22 (nI 0)) 23 (nI 0)) 26 (nI 0) := ⟨_, rfl⟩
  refine o.run 100 [59] ⟨Or.inl (by decide), ?_⟩
  show Z 59 (mdW 0 (mN (mN (mN (mN (mN (mN M 20 (nI 0)) 21 (M.1 18)) 18 (nI 0)) 22 (nI 0)) 23 (nI 0)) 26 (nI 0))) [some (.ref 0), some (.int (nI 24 * M.1 11)), some (.int (zi (-1))), none] []
  rw [← hN, a5, pk_mul]
  have fN : rfr (24 * S.1.1 2) (mN M 18 (nI 0)) N := ⟨fun k hk => by
    rw [hN]
    show upd (upd (upd (upd (upd (upd M.1 20 (nI 0)) 21 (M.1 18)) 18 (nI 0)) 22 (nI 0)) 23 (nI 0)) 26 (nI 0) k = upd M.1 18 (nI 0) k
    rw [upd_no _ _ (by omega), upd_no _ _ (by omega), upd_no _ _ (by omega)]
    by_cases e : k = 18
    · subst e; rw [upd_at, upd_at]
    · rw [upd_no _ _ e, upd_no _ _ e, upd_no _ _ (by omega), upd_no _ _ (by omega)], fun k _ => by rw [hN]; rfl, fun k j _ _ _ => by rw [hN]; rfl⟩
  have IN : rinv N (M.2 12) S.2.2.1.1 0 0 [] := by
    rw [hN]
    exact ⟨rfl, rfl, t0, rfl, rfl, rfl, trivial, Nat.zero_le _, Nat.zero_le _⟩
  have hle := pR_le (f := M.2 12) (len := S.2.2.1.1) 4 0 (Nat.zero_le _)
  have hlast : ∀ (M' : zM) (p' : Nat) (root : Int32) (x' : Option Value), (pA S.2.2.1.2 S.2.2.1.1) = (p', none) → rfr (24 * S.1.1 2) N M' → M'.1 20 = nI p' → Z 118 (mdW 0 M') [some (.ref 0), some (.int (nI (24 * S.1.1 2))), some (.int root), x'] [] := by
    intro M' p' root x' hp g1 g2
    refine o.run 100 [] (mret (A' := (zi (-20) - M'.1 20, (S.1, S.2.1, (0, S.2.2.1.2), S.2.2.2))) ?_ M' (repM_rd h (rfr_tr fN g1 (Nat.le_refl _))))
    rw [sRule, if_neg h10, hp, g2]
  refine pz_parse o t1 (by omega) 4 0 0 [] N none rfl IN ?_ ?_
  · intro h0 M' root x' g1 g2 g3
    refine o.run 100 [118] ⟨fun _ => ?_, fun q => absurd q g3⟩
    refine hlast M' _ root x' ?_ g1 g2
    rw [← eA]
    unfold pA
    split
    · exact Prod.ext rfl h0
    · rfl
  · intro g h0 M' i kn' x' g1 I hk K
    obtain ⟨c12, c20, c21, c22, c23, c26, cs, c1, c2⟩ := I
    have hi := KB_in K
    show Z 96 (mdW 0 M') [some (.ref 0), some (.int (nI (24 * S.1.1 2))), some (.int (zi (-1))), x'] [.int (nI i)]
    have hge : (0 : Int32) ≤ nI i := Int32.not_lt.mp (nI_pos (by omega))
    refine o.run 100 [100] ⟨fun _ => ?_, fun q => absurd hge q⟩
    by_cases hend : (pR (M.2 12) S.2.2.1.1 4 0).1 = S.2.2.1.1
    · have hp : pA S.2.2.1.2 S.2.2.1.1 = (S.2.2.1.1, some g) := by
        rw [← eA]
        unfold pA
        rw [if_pos hend]
        exact Prod.ext hend h0
      have es : sRule S = (nI (S.1.1 2), (tN (tD S.1 (fun r => if r = S.1.1 2 then g else S.1.2.2.2.2 r)) 2 (S.1.1 2 + 1), S.2.1, (0, S.2.2.1.2), S.2.2.2)) := by
        rw [sRule, if_neg h10, hp]
      have hM := repM_rd h (rfr_tr fN g1 (by omega))
      obtain ⟨⟨⟨d0, d1, d2, d3, d4, d5⟩, ⟨q1, q2, q3, q4, q5, q6⟩, kn2⟩, him2, tx2, rf2⟩ := hM
      have d5 : M'.1 11 = nI (S.1.1 2) := d5
      refine o.run 100 [118] ⟨fun q => absurd (show M'.1 22 = 0 by rw [c22]; exact nI_0) q, fun _ => ⟨fun _ => ⟨S.1.1 2, d5, by omega, ?_⟩, fun q => absurd (show M'.1 21 ≤ M'.1 20 by rw [c21, c20, hend]; exact nI_le (Nat.le_refl _) (by omega)) q⟩⟩
      refine mret (A' := (M'.1 11 + nI 1 - nI 1, (tN (tD S.1 (fun r => if r = S.1.1 2 then g else S.1.2.2.2.2 r)) 2 (S.1.1 2 + 1), S.2.1, (0, S.2.2.1.2), S.2.2.2))) (by rw [es, d5, ad_sb]) (mN (mR M' 7 (upd (M'.2 7) (S.1.1 2) (nI i))) 11 (M'.1 11 + nI 1)) ?_
      refine ⟨⟨⟨d0, d1, d2, d3, d4, ?_⟩, ⟨q1, q2, q3, q4, q5, q6⟩, fun r hr => ?_⟩, him2, tx2, rf2⟩
      · show M'.1 11 + nI 1 = nI (S.1.1 2 + 1)
        rw [d5, nI_add]
      · have hr : r < S.1.1 2 + 1 := hr
        by_cases hrr : r = S.1.1 2
        · subst hrr
          refine ⟨i, 4, upd_at _ _ _, ?_⟩
          show KN (M'.2 8) (M'.2 9) (M'.2 10) (M'.2 11) (24 * S.1.1 2) 4 i (if S.1.1 2 = S.1.1 2 then g else S.1.2.2.2.2 (S.1.1 2))
          rw [if_pos rfl]
          exact KB_KN (KB_c (by omega) (by omega) (fun _ _ _ => rfl) (fun _ _ _ => rfl) (fun _ _ _ => rfl) (fun _ _ _ => rfl) K)
        · obtain ⟨i', d', z1, z2⟩ := kn2 r (by show r < S.1.1 2; omega)
          refine ⟨i', d', ?_, ?_⟩
          · show upd (M'.2 7) (S.1.1 2) (nI i) r = _
            rw [upd_no _ _ hrr]; exact z1
          · show KN (M'.2 8) (M'.2 9) (M'.2 10) (M'.2 11) (24 * r) d' i' (if r = S.1.1 2 then g else S.1.2.2.2.2 r)
            rw [if_neg hrr]
            exact z2
    · have hp : pA S.2.2.1.2 S.2.2.1.1 = ((pR (M.2 12) S.2.2.1.1 4 0).1, none) := by
        rw [← eA]
        unfold pA
        rw [if_neg hend]
      have fin : Z 118 (mdW 0 M') [some (.ref 0), some (.int (nI (24 * S.1.1 2))), some (.int (nI i)), x'] [] := hlast M' _ _ _ hp g1 c20
      refine o.run 100 [118] ⟨fun _ => fin, fun _ => ⟨fun q => absurd (show M'.1 21 ≤ M'.1 20 from q) (by rw [c21, c20, nI_leI (by omega) (by omega)]; omega), fun _ => fin⟩⟩
end MP7
