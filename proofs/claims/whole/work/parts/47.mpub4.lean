/-! the reference's public methods, 4: gains, rules, parts, skies, sights -/
theorem okQ_num {M M' : zM} {t : zT} {bl bl' : Nat → Bool} {se : Nat → Int32} {sh sh' : Nat} {ru tw tw' v : Nat → Nat} (h : okQ M t bl se sh ru tw v) (hs : sm0 M M') (hr : M'.2 = M.2) (h30 : M'.1 30 = nI sh' ∧ sh' ≤ 24) (h31 : ∀ o, o < t.1 3 → (nI o = M'.1 31 ↔ bl' o = true)) (hw : wthr M' t tw') : okQ M' t bl' se sh' ru tw' v := by
  obtain ⟨g1, g2, g3, g4, g5, g6, g7⟩ := h
  refine ⟨repT_sm g1 hs, ?_, ?_, ?_, h30, h31, hw⟩
  · rw [hr]; exact g2
  · rw [hr]; exact g3
  · rw [hr]; exact g4
theorem amx_le (f : Nat → Int32) : ∀ k, amx f k ≤ k
  | 0 => Nat.le_refl _
  | k + 1 => by unfold amx; split <;> first | exact Nat.le_refl _ | exact Nat.le_succ_of_le (amx_le f k)
section MP4
variable {l : Launch} {D : va_G} {C : zC} {M : zM} {S : zF} {c : Nat}
set_option maxRecDepth 10000 in
theorem m_gain (h : repM M S) (hT : okT S.1 c) (hc : c ≤ 100) {p r x : Int32} : zPm l D C yX4_gain cX4_gain 4 7 [.int p, .int r, .int x] M (sGain S p r x) := by
  have hWb : S.1.1 0 ≤ 6 := hT.1.1
  have hLb : 0 < S.1.1 1 ∧ S.1.1 1 ≤ 24 := ⟨hT.1.2.1, hT.1.2.2.1⟩
  have hrb : S.1.1 2 ≤ 10 := hT.1.2.2.2.1
  have hnb : S.1.1 3 ≤ 8 := hT.1.2.2.2.2.1
  obtain ⟨⟨⟨a0, a1, a2, a3, a4, a5⟩, ⟨b1, b2, b3, b4, b5, b6⟩, kn⟩, him, tx, rf⟩ := id h
  refine zFun_of (by decide) oX4_gain tbX4 (Nat.le_of_ble_eq_true rfl) (fun Z o => ?_)
  have bad : (isN p (S.1.1 3) && isN r (S.1.1 2)) = false → Z 16 (mdW 0 M) [some (.ref 0), some (.int p), some (.int r), some (.int x)] [] := fun hf => by
    refine o.run 100 [] ?_
    show Z 20 (mdW 0 M) _ [.int (-(nI 1)), .ref 0, .int (-1000000000)]
    exact o.mrff h (by omega) (by rw [sGain, hf]; rfl)
  have good : (isN p (S.1.1 3) && isN r (S.1.1 2)) = true → Z 25 (mdW 0 M) [some (.ref 0), some (.int p), some (.int r), some (.int x)] [] := fun hb => by
    obtain ⟨hq1, hq2⟩ := Bool.and_eq_true_iff.mp hb
    obtain ⟨ep, hpl⟩ := isN_cl (by omega) hq1
    obtain ⟨er, hrl⟩ := isN_cl (by omega) hq2
    refine o.run 100 [] ?_
    show Z _ _ _ _
    refine o.cV vX4_219 (m_wrongYears (x := x) (n := S.1.1 3) (by omega) a2) (fun w' rv _ hpo => ?_)
    obtain ⟨rfl, rfl⟩ := hpo
    by_cases hz : whK x (S.1.1 3) = 0
    · obtain ⟨m, rfl, hm1, hm2, hn⟩ := wh0 hz
      have hcl : cl (nI m) = m := nI_clamp (by omega)
      rw [whR_0 hz]
      refine o.run 100 [46] ⟨fun _ => ?_, fun q => absurd (by decide) q⟩
      refine o.run 100 [] ?_
      show Z 53 (mdW 0 M) [some (.ref 0), some (.int p), some (.int r), some (.int (nI m))] [.int (nI 0), .int (nI 0), .int (zi (-1)), .int (nI m), .int r, .int p, .ref 0]
      have es : sGain S p r (nI m) = (rGn S.1 (rOne (cl p) (cl r) (ruT S.1)) m (cl p) - rGn S.1 (ruT S.1) m (cl p), S) := by
        rw [sGain, if_pos hb, if_pos hz, hcl]
      obtain ⟨pn, hpn⟩ : ∃ k, k = cl p := ⟨_, rfl⟩
      obtain ⟨rn, hrn⟩ : ∃ k, k = cl r := ⟨_, rfl⟩
      rw [← hpn] at ep hpl es
      rw [← hrn] at er hrl es
      subst ep er
      refine o.cV vX4_230 (m_gainOf (p := pn) (m := m) (a := 0) (b := 0) (r := rn) (fo := none) h.1 hT hc hm2 hpl hrl (fun k e => by cases e)) (fun w' rv _ hpo => ?_)
      obtain ⟨⟨M', rfl, hs⟩, rfl⟩ := hpo
      exact o.run 100 [] (mret (A' := (rGn S.1 (rOne pn rn (ruT S.1)) m pn - rGn S.1 (ruT S.1) m pn, S)) es M' (repM_sm h hs))
    · obtain ⟨hk1, -, hk3, -⟩ := whR_k hz
      rw [hk1]
      refine o.run 100 [] ⟨fun q => absurd q (whK_neg hz), fun _ => ?_⟩
      show Z _ _ _ _
      refine o.cV (rest := [.ref 0, .int (-1000000000)]) vX4_219 (m_wrongYears (x := x) (n := S.1.1 3) (by omega) a2) (fun w' rv _ hpo => ?_)
      obtain ⟨rfl, rfl⟩ := hpo
      rw [hk1]
      exact o.mrff h hk3 (by rw [sGain, if_pos hb, if_neg hz])
  refine o.run 100 [] ?_
  show Z _ _ _ _
  refine o.cV vX4_159 (m_isPerson (x := p) (by omega) a2) (fun w' rv _ hpo => ?_)
  obtain ⟨rfl, rfl⟩ := hpo
  refine o.run 100 [16] ⟨fun q => bad ?_, fun q => ?_⟩
  · rw [(zB_0 _).mp q]; rfl
  · have hq1 := zB_t q
    show Z _ _ _ _
    refine o.cV vX4_156 (m_isRule (x := r) (by omega) a5) (fun w' rv _ hpo => ?_)
    obtain ⟨rfl, rfl⟩ := hpo
    refine o.run 100 [16, 25] ⟨fun q => good ?_, fun q => bad ?_⟩
    · rw [hq1, zB_t q]; rfl
    · rw [hq1, (zB_0 _).mp q]; rfl
set_option maxRecDepth 10000 in
theorem m_rest (h : repM M S) (hT : okT S.1 c) (hc : c ≤ 100) {x : Int32} : zPm l D C yX4_rest cX4_rest 4 7 [.int x] M (sRest S x) := by
  have hWb : S.1.1 0 ≤ 6 := hT.1.1
  have hLb : 0 < S.1.1 1 ∧ S.1.1 1 ≤ 24 := ⟨hT.1.2.1, hT.1.2.2.1⟩
  have hrb : S.1.1 2 ≤ 10 := hT.1.2.2.2.1
  have hnb : S.1.1 3 ≤ 8 := hT.1.2.2.2.2.1
  obtain ⟨⟨⟨a0, a1, a2, a3, a4, a5⟩, ⟨b1, b2, b3, b4, b5, b6⟩, kn⟩, him, tx, rf⟩ := id h
  refine zFun_of (by decide) oX4_rest tbX4 (Nat.le_of_ble_eq_true rfl) (fun Z o => ?_)
  refine o.run 100 [] ?_
  show Z _ _ _ _
  refine o.cV vX4_219 (m_wrongYears (x := x) (n := S.1.1 3) (by omega) a2) (fun w' rv _ hpo => ?_)
  obtain ⟨rfl, rfl⟩ := hpo
  by_cases hz : whK x (S.1.1 3) = 0
  · obtain ⟨m, rfl, hm1, hm2, hn⟩ := wh0 hz
    have hcl : cl (nI m) = m := nI_clamp (by omega)
    rw [whR_0 hz]
    refine o.run 100 [18] ⟨fun _ => ?_, fun q => absurd (by decide) q⟩
    have es : sRest S (nI m) = (fnd2I (fnd2 (gnr S.1 m) (S.1.1 2) (S.1.1 3) 0), S) := by rw [sRest, sRun, if_pos hz, hcl]
    have fin : ∀ T, T = fnd2 (gnr S.1 m) (S.1.1 2) (S.1.1 3) 0 → ∀ M1, sm0 M M1 → zRt (some .int) (some (.int (fnd2I T))) ∧ (mdW 0 M1).length = (mdW 0 M).length ∧ (∃ M', mdW 0 M1 = mdW 0 M' ∧ repM M' (sRest S (nI m)).2) ∧ some (Value.int (fnd2I T)) = some (.int (sRest S (nI m)).1) := fun T hT1 M1 hs => by
      rw [es, hT1]
      exact ⟨⟨_, rfl, rfl⟩, rfl, ⟨M1, rfl, repM_sm h hs⟩, rfl⟩
    have outer : ∀ j p, p + j = S.1.1 3 → fnd2 (gnr S.1 m) (S.1.1 2) j p = fnd2 (gnr S.1 m) (S.1.1 2) (S.1.1 3) 0 → ∀ M1, sm0 M M1 → ∀ x3, Z 20 (mdW 0 M1) [some (.ref 0), some (.int (nI m)), some (.int (nI p)), x3] [] := by
      intro j
      induction j with
      | zero =>
        intro p hp hf M1 hs x3
        obtain rfl : p = S.1.1 3 := by omega
        have e4 : M1.1 4 = nI (S.1.1 3) := (repT_sm h.1 hs).1.2.2.1
        exact o.run 100 [] ⟨fun _ => fin none hf M1 hs, fun q => absurd (by show M1.1 4 ≤ _; rw [e4]; exact nI_le (Nat.le_refl _) (by omega)) q⟩
      | succ j ih =>
        intro p hp hf M1 hs x3
        have inner : ∀ i r, r + i = S.1.1 2 → fnd (gnr S.1 m p) i r = fnd (gnr S.1 m p) (S.1.1 2) 0 → ∀ M1, sm0 M M1 → Z 30 (mdW 0 M1) [some (.ref 0), some (.int (nI m)), some (.int (nI p)), some (.int (nI r))] [] := by
          intro i
          induction i with
          | zero =>
            intro r hr hg M1 hs
            obtain rfl : r = S.1.1 2 := by omega
            have e11 : M1.1 11 = nI (S.1.1 2) := (repT_sm h.1 hs).1.2.2.2.2.2
            refine o.run 100 [20] ⟨fun _ => ?_, fun q => absurd (by show M1.1 11 ≤ _; rw [e11]; exact nI_le (Nat.le_refl _) (by omega)) q⟩
            have hnone : fnd (gnr S.1 m p) (S.1.1 2) 0 = none := hg.symm
            have := ih (p + 1) (by omega) (by rw [← hf, fnd2, hnone]) M1 hs (some (.int (nI (S.1.1 2))))
            rw [← nI_1 p] at this
            exact this
          | succ i ihi =>
            intro r hr hg M1 hs
            have e11 : M1.1 11 = nI (S.1.1 2) := (repT_sm h.1 hs).1.2.2.2.2.2
            refine o.run 100 [] ⟨fun q => absurd q (by show ¬ M1.1 11 ≤ _; rw [e11]; exact nI_ge (by omega) (by omega)), fun _ => ?_⟩
            show Z _ _ _ _
            refine o.cV vX4_230 (m_gainOf (p := p) (m := m) (a := 0) (b := 0) (r := r) (fo := none) (repT_sm h.1 hs) hT hc hm2 (by omega) (by omega) (fun k e => by cases e)) (fun w' rv _ hpo => ?_)
            obtain ⟨⟨M2, rfl, hs2⟩, rfl⟩ := hpo
            have hgp := gain_pos (m := m) (p := p) (r1 := rOne p r (ruT S.1)) (r2 := ruT S.1) hT hm2
            refine o.run 100 [30] ⟨fun q => ?_, fun q => ?_⟩
            · have q : rGn S.1 (rOne p r (ruT S.1)) m p - rGn S.1 (ruT S.1) m p ≤ 0 := q
              have hn0 : ¬ gnr S.1 m p r = true := fun z => Int32.not_lt.mpr q (hgp.mpr (of_decide_eq_true z))
              have := ihi (r + 1) (by omega) (by rw [← hg, fnd, if_neg hn0]) M2 (sm0_tr hs hs2)
              rw [← nI_1 r] at this
              exact this
            · have q : ¬ rGn S.1 (rOne p r (ruT S.1)) m p - rGn S.1 (ruT S.1) m p ≤ 0 := q
              have hn0 : gnr S.1 m p r = true := decide_eq_true (hgp.mp (Int32.not_le.mp q))
              have hsome : fnd (gnr S.1 m p) (S.1.1 2) 0 = some r := by rw [← hg, fnd, if_pos hn0]
              have := fin (some (p, r)) (by rw [← hf, fnd2, hsome]) M2 (sm0_tr hs hs2)
              have e : fnd2I (some (p, r)) = nI 10 * nI p + nI r := by rw [pk_mul, nI_add]; rfl
              rw [e] at this
              exact this
        have e4 : M1.1 4 = nI (S.1.1 3) := (repT_sm h.1 hs).1.2.2.1
        exact o.run 100 [30] ⟨fun q => absurd q (by show ¬ M1.1 4 ≤ _; rw [e4]; exact nI_ge (by omega) (by omega)), fun _ => inner (S.1.1 2) 0 (by omega) rfl M1 hs⟩
    exact o.run 100 [20] (outer (S.1.1 3) 0 (by omega) rfl M (sm0_rf M) none)
  · obtain ⟨hk1, -, hk3, -⟩ := whR_k hz
    rw [hk1]
    refine o.run 100 [] ⟨fun q => absurd q (whK_neg hz), fun _ => ?_⟩
    show Z _ _ _ _
    refine o.cV (rest := [.ref 0]) vX4_219 (m_wrongYears (x := x) (n := S.1.1 3) (by omega) a2) (fun w' rv _ hpo => ?_)
    obtain ⟨rfl, rfl⟩ := hpo
    rw [hk1]
    exact o.mrf h hk3 (by rw [sRest, sRun, if_neg hz])
set_option maxRecDepth 10000 in
theorem m_ifAll (h : repM M S) (hT : okT S.1 c) (hc : c ≤ 100) {r x : Int32} : zPm l D C yX4_ifAll cX4_ifAll 3 6 [.int r, .int x] M (sIfAll S r x) := by
  have hWb : S.1.1 0 ≤ 6 := hT.1.1
  have hLb : 0 < S.1.1 1 ∧ S.1.1 1 ≤ 24 := ⟨hT.1.2.1, hT.1.2.2.1⟩
  have hrb : S.1.1 2 ≤ 10 := hT.1.2.2.2.1
  have hnb : S.1.1 3 ≤ 8 := hT.1.2.2.2.2.1
  obtain ⟨⟨⟨a0, a1, a2, a3, a4, a5⟩, ⟨b1, b2, b3, b4, b5, b6⟩, kn⟩, him, tx, rf⟩ := id h
  refine zFun_of (by decide) oX4_ifAll tbX4 (Nat.le_of_ble_eq_true rfl) (fun Z o => ?_)
  refine o.run 100 [] ?_
  show Z _ _ _ _
  refine o.cV vX4_156 (m_isRule (x := r) (by omega) a5) (fun w' rv _ hpo => ?_)
  obtain ⟨rfl, rfl⟩ := hpo
  refine o.run 100 [14] ⟨fun q => ?_, fun q => ?_⟩
  · have hp := zB_t q
    obtain ⟨er, hrl⟩ := isN_cl (by omega) hp
    refine o.run 100 [] ?_
    show Z _ _ _ _
    refine o.cV vX4_219 (m_wrongYears (x := x) (n := S.1.1 3) (by omega) a2) (fun w' rv _ hpo => ?_)
    obtain ⟨rfl, rfl⟩ := hpo
    by_cases hz : whK x (S.1.1 3) = 0
    · obtain ⟨m, rfl, hm1, hm2, hn⟩ := wh0 hz
      have hcl : cl (nI m) = m := nI_clamp (by omega)
      rw [whR_0 hz]
      refine o.run 100 [32] ⟨fun _ => ?_, fun q => absurd (by decide) q⟩
      refine o.run 100 [] ?_
      show Z _ _ _ _
      refine o.cV vX4_216 (m_open h.1 hT) (fun w' rv _ hpo => ?_)
      obtain ⟨rfl, rfl⟩ := hpo
      have es : sIfAll S r (nI m) = (rFn S.1 (allR S.1 (cl r)) m, S) := by rw [sIfAll, if_pos hp, sRun, if_pos hz, hcl]
      obtain ⟨rn, hrn⟩ : ∃ k, k = cl r := ⟨_, rfl⟩
      rw [← hrn] at er hrl es
      subst er
      refine o.run 100 [] ?_
      show Z _ _ _ _
      refine o.cV vX4_233 (m_faresInParts (k := 0) (a := rn) (b := rn) (m := m) (okQ_opn h.1 hT) hT hc hn hm2 (by omega) hrl hrl) (fun w' rv _ hpo => ?_)
      obtain ⟨⟨M', rfl, hk⟩, rfl⟩ := hpo
      exact o.run 100 [] (mret (A' := (rFn S.1 (allR S.1 rn) m, S)) es M' (repM_sm h (sm0_tr (opn_sm _ _) hk.1)))
    · obtain ⟨hk1, -, hk3, -⟩ := whR_k hz
      rw [hk1]
      refine o.run 100 [] ⟨fun q => absurd q (whK_neg hz), fun _ => ?_⟩
      show Z _ _ _ _
      refine o.cV (rest := [.ref 0]) vX4_219 (m_wrongYears (x := x) (n := S.1.1 3) (by omega) a2) (fun w' rv _ hpo => ?_)
      obtain ⟨rfl, rfl⟩ := hpo
      rw [hk1]
      exact o.mrf h hk3 (by rw [sIfAll, if_pos hp, sRun, if_neg hz])
  · show Z 10 (mdW 0 M) _ [.int (-(nI 1)), .ref 0]
    exact o.mrf h (by omega) (by rw [sIfAll, (zB_0 _).mp q]; rfl)
set_option maxRecDepth 10000 in
theorem m_bestRule (h : repM M S) (hT : okT S.1 c) (hc : c ≤ 100) {x : Int32} : zPm l D C yX4_bestRule cX4_bestRule 6 6 [.int x] M (sBestRule S x) := by
  have hWb : S.1.1 0 ≤ 6 := hT.1.1
  have hLb : 0 < S.1.1 1 ∧ S.1.1 1 ≤ 24 := ⟨hT.1.2.1, hT.1.2.2.1⟩
  have hrb : S.1.1 2 ≤ 10 := hT.1.2.2.2.1
  have hnb : S.1.1 3 ≤ 8 := hT.1.2.2.2.2.1
  obtain ⟨⟨⟨a0, a1, a2, a3, a4, a5⟩, ⟨b1, b2, b3, b4, b5, b6⟩, kn⟩, him, tx, rf⟩ := id h
  refine zFun_of (by decide) oX4_bestRule tbX4 (Nat.le_of_ble_eq_true rfl) (fun Z o => ?_)
  refine o.run 100 [] ?_
  show Z _ _ _ _
  refine o.cV vX4_219 (m_wrongYears (x := x) (n := S.1.1 3) (by omega) a2) (fun w' rv _ hpo => ?_)
  obtain ⟨rfl, rfl⟩ := hpo
  by_cases hz : whK x (S.1.1 3) = 0
  · obtain ⟨m, rfl, hm1, hm2, hn⟩ := wh0 hz
    have hcl : cl (nI m) = m := nI_clamp (by omega)
    rw [whR_0 hz]
    refine o.run 100 [18] ⟨fun _ => ?_, fun q => absurd (by decide) q⟩
    have hr0 : 0 < S.1.1 2 := by have := (hT.2.2.2.1 0 hn).1; omega
    obtain ⟨f, hf⟩ : ∃ f : Nat → Int32, f = fun r => rFn S.1 (allR S.1 r) m := ⟨_, rfl⟩
    have es : sBestRule S (nI m) = (nI (amx f (S.1.1 2 - 1)), S) := by rw [sBestRule, sRun, if_pos hz, hcl, hf]
    have call : ∀ (r : Nat), r < S.1.1 2 → ∀ (x2 x3 : Int32) x5 M1, sm0 M M1 → (∀ M2, sm0 M M2 → Z 50 (mdW 0 M2) [some (.ref 0), some (.int (nI m)), some (.int x2), some (.int x3), some (.int (nI r)), some (.int (f r))] []) → Z 25 (mdW 0 M1) [some (.ref 0), some (.int (nI m)), some (.int x2), some (.int x3), some (.int (nI r)), x5] [] := by
      intro r hr x2 x3 x5 M1 hs kk
      have h1 := repT_sm h.1 hs
      refine o.run 100 [] ⟨fun q => absurd q (by show ¬ M1.1 11 ≤ _; rw [h1.1.2.2.2.2.2]; exact nI_ge (by omega) (by omega)), fun _ => ?_⟩
      show Z _ _ _ _
      refine o.cV vX4_216 (m_open h1 hT) (fun w' rv _ hpo => ?_)
      obtain ⟨rfl, rfl⟩ := hpo
      refine o.run 100 [] ?_
      show Z _ _ _ _
      refine o.cV vX4_233 (m_faresInParts (k := 0) (a := r) (b := r) (m := m) (okQ_opn h1 hT) hT hc hn hm2 (by omega) hr hr) (fun w' rv _ hpo => ?_)
      obtain ⟨⟨M', rfl, hk⟩, rfl⟩ := hpo
      have := kk M' (sm0_tr hs (sm0_tr (opn_sm _ _) hk.1))
      rw [hf] at this
      exact o.run 100 [50] this
    have loop : ∀ j k, k + 1 + j = S.1.1 2 → ∀ x5 M1, sm0 M M1 → Z 25 (mdW 0 M1) [some (.ref 0), some (.int (nI m)), some (.int (nI (amx f k))), some (.int (f (amx f k))), some (.int (nI (k + 1))), x5] [] := by
      intro j
      induction j with
      | zero =>
        intro k hk x5 M1 hs
        have h1 := repT_sm h.1 hs
        refine o.run 100 [] ⟨fun _ => mret (A' := (nI (amx f k), S)) (by rw [es, show S.1.1 2 - 1 = k by omega]) M1 (repM_sm h hs), fun q => absurd (by show M1.1 11 ≤ _; rw [h1.1.2.2.2.2.2]; exact nI_le (by omega) (by omega)) q⟩
      | succ j ih =>
        intro k hk x5 M1 hs
        have ha : amx f k ≤ k := amx_le f k
        refine call (k + 1) (by omega) _ _ x5 M1 hs (fun M2 hs2 => ?_)
        refine o.run 100 [25] ⟨fun q => absurd q (nI_pos (by omega)), fun _ => ⟨fun q => ?_, fun q => ?_⟩⟩
        · have := ih (k + 1) (by omega) (some (.int (f (k + 1)))) M2 hs2
          have q : f (k + 1) ≤ f (amx f k) := q
          rw [show amx f (k + 1) = amx f k by rw [amx, if_neg (Int32.not_lt.mpr q)], ← nI_1 (k + 1)] at this
          exact this
        · have := ih (k + 1) (by omega) (some (.int (f (k + 1)))) M2 hs2
          have q : ¬ f (k + 1) ≤ f (amx f k) := q
          rw [show amx f (k + 1) = k + 1 by rw [amx, if_pos (Int32.not_le.mp q)], ← nI_1 (k + 1)] at this
          exact this
    refine o.run 100 [25] ?_
    refine call 0 hr0 _ _ none M (sm0_rf M) (fun M2 hs2 => ?_)
    refine o.run 100 [25] ⟨fun _ => ?_, fun q => absurd (by decide) q⟩
    exact loop (S.1.1 2 - 1) 0 (by omega) (some (.int (f 0))) M2 hs2
  · obtain ⟨hk1, -, hk3, -⟩ := whR_k hz
    rw [hk1]
    refine o.run 100 [] ⟨fun q => absurd q (whK_neg hz), fun _ => ?_⟩
    show Z _ _ _ _
    refine o.cV (rest := [.ref 0]) vX4_219 (m_wrongYears (x := x) (n := S.1.1 3) (by omega) a2) (fun w' rv _ hpo => ?_)
    obtain ⟨rfl, rfl⟩ := hpo
    rw [hk1]
    exact o.mrf h hk3 (by rw [sBestRule, sRun, if_neg hz])
set_option maxRecDepth 10000 in
theorem m_blind (h : repM M S) (hT : okT S.1 c) (hc : c ≤ 100) {x : Int32} : zPm l D C yX4_blind cX4_blind 6 6 [.int x] M (sBlind S x) := by
  have hWb : S.1.1 0 ≤ 6 := hT.1.1
  have hLb : 0 < S.1.1 1 ∧ S.1.1 1 ≤ 24 := ⟨hT.1.2.1, hT.1.2.2.1⟩
  have hrb : S.1.1 2 ≤ 10 := hT.1.2.2.2.1
  have hnb : S.1.1 3 ≤ 8 := hT.1.2.2.2.2.1
  obtain ⟨⟨⟨a0, a1, a2, a3, a4, a5⟩, ⟨b1, b2, b3, b4, b5, b6⟩, kn⟩, him, tx, rf⟩ := id h
  refine zFun_of (by decide) oX4_blind tbX4 (Nat.le_of_ble_eq_true rfl) (fun Z o => ?_)
  refine o.run 100 [] ?_
  show Z _ _ _ _
  refine o.cV vX4_219 (m_wrongYears (x := x) (n := S.1.1 3) (by omega) a2) (fun w' rv _ hpo => ?_)
  obtain ⟨rfl, rfl⟩ := hpo
  by_cases hz : whK x (S.1.1 3) = 0
  · obtain ⟨m, rfl, hm1, hm2, hn⟩ := wh0 hz
    have hcl : cl (nI m) = m := nI_clamp (by omega)
    rw [whR_0 hz]
    refine o.run 100 [18] ⟨fun _ => ?_, fun q => absurd (by decide) q⟩
    obtain ⟨f, hf⟩ : ∃ f : Nat → Int32, f = fun p => rF S.1 (fun o => decide (p = o)) (S.1.2.2.2.1 0) (S.1.1 5) (ruT S.1) (tT S.1) m := ⟨_, rfl⟩
    have es : sBlind S (nI m) = (nI (amx f (S.1.1 3 - 1)), S) := by rw [sBlind, sRun, if_pos hz, hcl, hf]
    have call : ∀ (r : Nat), r < S.1.1 3 → ∀ (x2 x3 : Int32) x5 M1, sm0 M M1 → (∀ M2, sm0 M M2 → Z 51 (mdW 0 M2) [some (.ref 0), some (.int (nI m)), some (.int x2), some (.int x3), some (.int (nI r)), some (.int (f r))] []) → Z 25 (mdW 0 M1) [some (.ref 0), some (.int (nI m)), some (.int x2), some (.int x3), some (.int (nI r)), x5] [] := by
      intro r hr x2 x3 x5 M1 hs kk
      have h1 := repT_sm h.1 hs
      refine o.run 100 [] ⟨fun q => absurd q (by show ¬ M1.1 4 ≤ _; rw [h1.1.2.2.1]; exact nI_ge (by omega) (by omega)), fun _ => ?_⟩
      show Z _ _ _ _
      refine o.cV vX4_216 (m_open h1 hT) (fun w' rv _ hpo => ?_)
      obtain ⟨rfl, rfl⟩ := hpo
      have hQ : okQ (mN (opn (S.1.1 3) M1) 31 (nI r)) S.1 (fun o => decide (r = o)) (S.1.2.2.2.1 0) (S.1.1 5) (ruT S.1) (tT S.1) (S.1.2.2.1 1) := okQ_num (okQ_opn h1 hT) (sm0_N (sm0_rf _) (by omega) (by omega)) rfl ⟨h1.1.2.2.2.1, hT.1.2.2.2.2.2.2⟩ (fun q hq => by
        show nI q = nI r ↔ decide (r = q) = true
        rw [nI_eq (by omega) (by omega), decide_eq_true_eq]
        exact ⟨fun e => e.symm, fun e => e.symm⟩) (Or.inl ⟨rfl, fun i => rfl⟩)
      refine o.run 100 [] ?_
      show Z 46 (mdW 0 (mN (opn (S.1.1 3) M1) 31 (nI r))) [some (.ref 0), some (.int (nI m)), some (.int x2), some (.int x3), some (.int (nI r)), x5] [.int (nI m), .ref 0]
      refine o.cV vX4_222 (m_run (m := m) hQ hT hc hn hm2) (fun w' rv _ hpo => ?_)
      obtain ⟨⟨M', r20, rfl, hr2⟩, rfl⟩ := hpo
      have := kk M' (sm0_tr hs (sm0_tr (sm0_N (opn_sm _ _) (by omega) (by omega)) (smR_0 hr2.1)))
      rw [hf] at this
      exact o.run 100 [51] this
    have loop : ∀ j k, k + 1 + j = S.1.1 3 → ∀ x5 M1, sm0 M M1 → Z 25 (mdW 0 M1) [some (.ref 0), some (.int (nI m)), some (.int (nI (amx f k))), some (.int (f (amx f k))), some (.int (nI (k + 1))), x5] [] := by
      intro j
      induction j with
      | zero =>
        intro k hk x5 M1 hs
        have h1 := repT_sm h.1 hs
        refine o.run 100 [] ⟨fun _ => mret (A' := (nI (amx f k), S)) (by rw [es, show S.1.1 3 - 1 = k by omega]) M1 (repM_sm h hs), fun q => absurd (by show M1.1 4 ≤ _; rw [h1.1.2.2.1]; exact nI_le (by omega) (by omega)) q⟩
      | succ j ih =>
        intro k hk x5 M1 hs
        have ha : amx f k ≤ k := amx_le f k
        refine call (k + 1) (by omega) _ _ x5 M1 hs (fun M2 hs2 => ?_)
        refine o.run 100 [25] ⟨fun q => absurd q (nI_pos (by omega)), fun _ => ⟨fun q => ?_, fun q => ?_⟩⟩
        · have := ih (k + 1) (by omega) (some (.int (f (k + 1)))) M2 hs2
          have q : f (k + 1) ≤ f (amx f k) := q
          rw [show amx f (k + 1) = amx f k by rw [amx, if_neg (Int32.not_lt.mpr q)], ← nI_1 (k + 1)] at this
          exact this
        · have := ih (k + 1) (by omega) (some (.int (f (k + 1)))) M2 hs2
          have q : ¬ f (k + 1) ≤ f (amx f k) := q
          rw [show amx f (k + 1) = k + 1 by rw [amx, if_pos (Int32.not_le.mp q)], ← nI_1 (k + 1)] at this
          exact this
    refine o.run 100 [25] ?_
    refine call 0 hn _ _ none M (sm0_rf M) (fun M2 hs2 => ?_)
    refine o.run 100 [25] ⟨fun _ => ?_, fun q => absurd (by decide) q⟩
    exact loop (S.1.1 3 - 1) 0 (by omega) (some (.int (f 0))) M2 hs2
  · obtain ⟨hk1, -, hk3, -⟩ := whR_k hz
    rw [hk1]
    refine o.run 100 [] ⟨fun q => absurd q (whK_neg hz), fun _ => ?_⟩
    show Z _ _ _ _
    refine o.cV (rest := [.ref 0]) vX4_219 (m_wrongYears (x := x) (n := S.1.1 3) (by omega) a2) (fun w' rv _ hpo => ?_)
    obtain ⟨rfl, rfl⟩ := hpo
    rw [hk1]
    exact o.mrf h hk3 (by rw [sBlind, sRun, if_neg hz])
end MP4
