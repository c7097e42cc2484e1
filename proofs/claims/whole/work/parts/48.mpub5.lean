/-! the reference's public methods, 5: part, edge, lessSeen, shown -/
section MP5
variable {l : Launch} {D : va_G} {C : zC} {M : zM} {S : zF} {c : Nat}
set_option maxRecDepth 10000 in
theorem m_part (h : repM M S) (hT : okT S.1 c) (hc : c ≤ 100) {a b w x : Int32} : zPm l D C yX4_part cX4_part 9 8 [.int a, .int b, .int w, .int x] M (sPart S a b w x) := by
  have hWb : S.1.1 0 ≤ 6 := hT.1.1
  have hLb : 0 < S.1.1 1 ∧ S.1.1 1 ≤ 24 := ⟨hT.1.2.1, hT.1.2.2.1⟩
  have hrb : S.1.1 2 ≤ 10 := hT.1.2.2.2.1
  have hnb : S.1.1 3 ≤ 8 := hT.1.2.2.2.2.1
  obtain ⟨⟨⟨a0, a1, a2, a3, a4, a5⟩, ⟨b1, b2, b3, b4, b5, b6⟩, kn⟩, him, tx, rf⟩ := id h
  refine zFun_of (by decide) oX4_part tbX4 (Nat.le_of_ble_eq_true rfl) (fun Z o => ?_)
  have bad : (isN a (S.1.1 2) && isN b (S.1.1 2)) = false → Z 16 (mdW 0 M) [some (.ref 0), some (.int a), some (.int b), some (.int w), some (.int x), none, none, none, none] [] := fun hf => by
    refine o.run 100 [] ?_
    show Z 18 (mdW 0 M) _ [.int (-(nI 1)), .ref 0]
    exact o.mrf h (by omega) (by rw [sPart, hf]; rfl)
  have good : (isN a (S.1.1 2) && isN b (S.1.1 2)) = true → Z 22 (mdW 0 M) [some (.ref 0), some (.int a), some (.int b), some (.int w), some (.int x), none, none, none, none] [] := fun hb => by
    obtain ⟨hq1, hq2⟩ := Bool.and_eq_true_iff.mp hb
    obtain ⟨ea, hal⟩ := isN_cl (by omega) hq1
    obtain ⟨eb, hbl⟩ := isN_cl (by omega) hq2
    refine o.run 100 [] ?_
    show Z _ _ _ _
    refine o.cS vX4_84 (m_in (x := w.toInt64) (a := lN 0) (b := lN 1)) (fun rv hpo => ?_)
    subst hpo
    have hi := in_lit (x := w) (a := 0) (b := 1) (by omega) (by omega)
    refine o.run 100 [39] ⟨fun q => ?_, fun q => ?_⟩
    · have hw := hi.mp (of_decide_eq_true (zB_t q))
      have hw0 : ¬ w < 0 := Int32.not_lt.mpr (by rw [← nI_0]; exact hw.1)
      obtain ⟨wn, hwn, rfl⟩ := nI_of hw0
      have hw1 := hw.2
      rw [nI_leI (by omega) (by omega)] at hw1
      obtain ⟨an, han⟩ : ∃ k, k = cl a := ⟨_, rfl⟩
      obtain ⟨bn, hbn⟩ : ∃ k, k = cl b := ⟨_, rfl⟩
      rw [← han] at ea hal
      rw [← hbn] at eb hbl
      subst ea eb
      have han : cl (nI an) = an := han.symm
      have hbn : cl (nI bn) = bn := hbn.symm
      have hwor : wn = 0 ∨ wn = 1 := by omega
      have hsp : ¬ whK x (S.1.1 3) = 0 → sPart S (nI an) (nI bn) (nI wn) x = sRf S (whK x (S.1.1 3)) := fun hz => by
        rcases hwor with rfl | rfl
        · rw [sPart, if_pos hb, if_pos rfl, sRun, if_neg hz]
        · rw [sPart, if_pos hb, if_neg (by decide), if_pos rfl, sRun, if_neg hz]
      refine o.run 100 [] ?_
      show Z _ _ _ _
      refine o.cV vX4_219 (m_wrongYears (x := x) (n := S.1.1 3) (by omega) a2) (fun w' rv _ hpo => ?_)
      obtain ⟨rfl, rfl⟩ := hpo
      by_cases hz : whK x (S.1.1 3) = 0
      · obtain ⟨m, rfl, hm1, hm2, hn⟩ := wh0 hz
        have hcl : cl (nI m) = m := nI_clamp (by omega)
        rw [whR_0 hz]
        refine o.run 100 [59] ⟨fun _ => ?_, fun q => absurd (by decide) q⟩
        rcases hwor with rfl | rfl
        · have f0 : (fun k => rFn S.1 (rPart (S.1.1 3) an bn k (ruT S.1)) m) = (fun k => rFn S.1 (rPart (S.1.1 3) an bn k (ruT S.1)) m) := rfl
          obtain ⟨f, hf⟩ : ∃ f : Nat → Int32, f = fun k => rFn S.1 (rPart (S.1.1 3) an bn k (ruT S.1)) m := ⟨_, rfl⟩
          have es : sPart S (nI an) (nI bn) (nI 0) (nI m) = (nI (amx f (S.1.1 3)), S) := by rw [sPart, if_pos hb, if_pos rfl, sRun, if_pos hz, hcl, han, hbn, hf]
          have call : ∀ (r : Nat), r ≤ S.1.1 3 → ∀ (x5 x6 : Int32) x8 M1, sm0 M M1 → (∀ M2, sm0 M M2 → Z 129 (mdW 0 M2) [some (.ref 0), some (.int (nI an)), some (.int (nI bn)), some (.int (nI 0)), some (.int (nI m)), some (.int x5), some (.int x6), some (.int (nI r)), some (.int (f r))] []) → Z 69 (mdW 0 M1) [some (.ref 0), some (.int (nI an)), some (.int (nI bn)), some (.int (nI 0)), some (.int (nI m)), some (.int x5), some (.int x6), some (.int (nI r)), x8] [] := by
            intro r hr x5 x6 x8 M1 hs kk
            have h1 := repT_sm h.1 hs
            refine o.run 100 [83, 113] ⟨fun q => absurd q (by show ¬ M1.1 4 < _; rw [h1.1.2.2.1, nI_ltI (by omega) (by omega)]; omega), fun _ => ⟨fun _ => ?_, fun q => absurd (show nI 0 = nI 1 from q) (by decide)⟩⟩
            refine o.run 100 [] ?_
            show Z _ _ _ _
            refine o.cV vX4_216 (m_open h1 hT) (fun w' rv _ hpo => ?_)
            obtain ⟨rfl, rfl⟩ := hpo
            refine o.run 100 [] ?_
            show Z _ _ _ _
            refine o.cV vX4_233 (m_faresInParts (k := r) (a := an) (b := bn) (m := m) (okQ_opn h1 hT) hT hc hn hm2 (by omega) hal hbl) (fun w' rv _ hpo => ?_)
            obtain ⟨⟨M', rfl, hk⟩, rfl⟩ := hpo
            have := kk M' (sm0_tr hs (sm0_tr (opn_sm _ _) hk.1))
            rw [hf] at this
            exact o.run 100 [129] this
          have loop : ∀ j k, k + j = S.1.1 3 → ∀ x8 M1, sm0 M M1 → Z 69 (mdW 0 M1) [some (.ref 0), some (.int (nI an)), some (.int (nI bn)), some (.int (nI 0)), some (.int (nI m)), some (.int (nI (amx f k))), some (.int (f (amx f k))), some (.int (nI (k + 1))), x8] [] := by
            intro j
            induction j with
            | zero =>
              intro k hk x8 M1 hs
              obtain rfl : k = S.1.1 3 := by omega
              have h1 := repT_sm h.1 hs
              refine o.run 100 [] ⟨fun _ => mret (A' := (nI (amx f (S.1.1 3)), S)) es M1 (repM_sm h hs), fun q => absurd (by show M1.1 4 < _; rw [h1.1.2.2.1]; exact nI_lt (by omega) (by omega)) q⟩
            | succ j ih =>
              intro k hk x8 M1 hs
              have ha : amx f k ≤ k := amx_le f k
              refine call (k + 1) (by omega) _ _ x8 M1 hs (fun M2 hs2 => ?_)
              refine o.run 100 [69] ⟨fun q => absurd q (nI_pos (by omega)), fun _ => ⟨fun q => ?_, fun q => ?_⟩⟩
              · have := ih (k + 1) (by omega) (some (.int (f (k + 1)))) M2 hs2
                have q : f (k + 1) ≤ f (amx f k) := q
                rw [show amx f (k + 1) = amx f k by rw [amx, if_neg (Int32.not_lt.mpr q)], ← nI_1 (k + 1)] at this
                exact this
              · have := ih (k + 1) (by omega) (some (.int (f (k + 1)))) M2 hs2
                have q : ¬ f (k + 1) ≤ f (amx f k) := q
                rw [show amx f (k + 1) = k + 1 by rw [amx, if_pos (Int32.not_le.mp q)], ← nI_1 (k + 1)] at this
                exact this
          refine o.run 100 [69] ?_
          refine call 0 (Nat.zero_le _) _ _ none M (sm0_rf M) (fun M2 hs2 => ?_)
          refine o.run 100 [69] ⟨fun _ => ?_, fun q => absurd (by decide) q⟩
          exact loop (S.1.1 3) 0 (by omega) (some (.int (f 0))) M2 hs2
        · obtain ⟨g, hg⟩ : ∃ g : Nat → Bool, g = fun k => allN (nbT S.1 an bn m k) (S.1.1 3) := ⟨_, rfl⟩
          have es : sPart S (nI an) (nI bn) (nI 1) (nI m) = (fndI (fnd g (S.1.1 3 + 1) 0), S) := by rw [sPart, if_pos hb, if_neg (by decide), if_pos rfl, sRun, if_pos hz, hcl, han, hbn, hg]
          have loop : ∀ j k, k + j = S.1.1 3 + 1 → ∀ M1, sm0 M M1 → Z 69 (mdW 0 M1) [some (.ref 0), some (.int (nI an)), some (.int (nI bn)), some (.int (nI 1)), some (.int (nI m)), some (.int (fndI (fnd g k 0))), some (.int (nI 0)), some (.int (nI k)), none] [] := by
            intro j
            induction j with
            | zero =>
              intro k hk M1 hs
              obtain rfl : k = S.1.1 3 + 1 := by omega
              have h1 := repT_sm h.1 hs
              exact o.run 100 [] ⟨fun _ => mret (A' := (fndI (fnd g (S.1.1 3 + 1) 0), S)) es M1 (repM_sm h hs), fun q => absurd (by show M1.1 4 < _; rw [h1.1.2.2.1]; exact nI_lt (by omega) (by omega)) q⟩
            | succ j ih =>
              intro k hk M1 hs
              have h1 := repT_sm h.1 hs
              have fin : ∀ y : Int32, y = fndI (fnd g (k + 1) 0) → ∀ M2, sm0 M M2 → Z 108 (mdW 0 M2) [some (.ref 0), some (.int (nI an)), some (.int (nI bn)), some (.int (nI 1)), some (.int (nI m)), some (.int (fndI (fnd g k 0))), some (.int (nI 0)), some (.int (nI k)), none] [.int y] := fun y hy M2 hs2 => by
                have := ih (k + 1) (by omega) M2 hs2
                rw [← hy, ← nI_1 k] at this
                exact o.run 100 [69] this
              have hsn := fndI_snoc g (i := k) (by omega)
              refine o.run 100 [108] ⟨fun q => absurd q (by show ¬ M1.1 4 < _; rw [h1.1.2.2.1, nI_ltI (by omega) (by omega)]; omega), fun _ => ⟨fun q => absurd (show nI 1 = nI 1 from rfl) q, fun _ => ⟨fun q => fin _ ?_ M1 hs, fun q => ?_⟩⟩⟩
              · rw [hsn, if_neg (fun z => Int32.not_lt.mpr q z.1)]
              · show Z 95 (mdW 0 M1) [some (.ref 0), some (.int (nI an)), some (.int (nI bn)), some (.int (nI 1)), some (.int (nI m)), some (.int (fndI (fnd g k 0))), some (.int (nI 0)), some (.int (nI k)), none] [.int (nI m), .int (nI bn), .int (nI an), .int (nI k), .ref 0]
                refine o.cV vX4_237 (m_restsInParts (k := k) (a := an) (b := bn) (m := m) h1 hT hc hm2 (by omega) hal hbl) (fun w' rv _ hpo => ?_)
                obtain ⟨⟨M2, rfl, hs2⟩, rfl⟩ := hpo
                have hgk : g k = allN (nbT S.1 an bn m k) (S.1.1 3) := by rw [hg]
                rw [← hgk]
                refine o.run 100 [108] ⟨fun q2 => fin _ ?_ M2 (sm0_tr hs hs2), fun q2 => fin _ ?_ M2 (sm0_tr hs hs2)⟩
                · rw [hsn, if_neg (fun z => by rw [(zB_0 _).mp q2] at z; exact absurd z.2 (by simp))]
                · rw [hsn, if_pos ⟨Int32.not_le.mp q, zB_t q2⟩]
          exact o.run 100 [69] (loop (S.1.1 3 + 1) 0 (by omega) M (sm0_rf M))
      · obtain ⟨hk1, -, hk3, -⟩ := whR_k hz
        rw [hk1]
        refine o.run 100 [] ⟨fun q => absurd q (whK_neg hz), fun _ => ?_⟩
        show Z _ _ _ _
        refine o.cV (rest := [.ref 0]) vX4_219 (m_wrongYears (x := x) (n := S.1.1 3) (by omega) a2) (fun w' rv _ hpo => ?_)
        obtain ⟨rfl, rfl⟩ := hpo
        rw [hk1]
        exact o.mrf h hk3 (hsp hz)
    · show Z 35 (mdW 0 M) [some (.ref 0), some (.int a), some (.int b), some (.int w), some (.int x), none, none, none, none] [.int (-(nI 2)), .ref 0]
      have hn0 : ¬ w = nI 0 := fun z => of_decide_eq_false ((zB_0 _).mp q) (hi.mpr (by rw [z]; decide))
      have hn1 : ¬ w = nI 1 := fun z => of_decide_eq_false ((zB_0 _).mp q) (hi.mpr (by rw [z]; decide))
      exact o.mrf h (by omega) (by rw [sPart, if_pos hb, if_neg hn0, if_neg hn1])
  refine o.run 100 [] ?_
  show Z _ _ _ _
  refine o.cV vX4_156 (m_isRule (x := a) (by omega) a5) (fun w' rv _ hpo => ?_)
  obtain ⟨rfl, rfl⟩ := hpo
  refine o.run 100 [16] ⟨fun q => bad ?_, fun q => ?_⟩
  · rw [(zB_0 _).mp q]; rfl
  · have hq1 := zB_t q
    show Z _ _ _ _
    refine o.cV vX4_156 (m_isRule (x := b) (by omega) a5) (fun w' rv _ hpo => ?_)
    obtain ⟨rfl, rfl⟩ := hpo
    refine o.run 100 [16, 22] ⟨fun q => good ?_, fun q => bad ?_⟩
    · rw [hq1, zB_t q]; rfl
    · rw [hq1, (zB_0 _).mp q]; rfl
set_option maxRecDepth 10000 in
theorem m_edge (h : repM M S) (hT : okT S.1 c) (hc : c ≤ 100) {a b w x : Int32} : zPm l D C yX4_edge cX4_edge 8 6 [.int a, .int b, .int w, .int x] M (sEdge S a b w x) := by
  have hWb : S.1.1 0 ≤ 6 := hT.1.1
  have hLb : 0 < S.1.1 1 ∧ S.1.1 1 ≤ 24 := ⟨hT.1.2.1, hT.1.2.2.1⟩
  have hrb : S.1.1 2 ≤ 10 := hT.1.2.2.2.1
  have hnb : S.1.1 3 ≤ 8 := hT.1.2.2.2.2.1
  obtain ⟨⟨⟨a0, a1, a2, a3, a4, a5⟩, ⟨b1, b2, b3, b4, b5, b6⟩, kn⟩, him, tx, rf⟩ := id h
  refine zFun_of (by decide) oX4_edge tbX4 (Nat.le_of_ble_eq_true rfl) (fun Z o => ?_)
  have bad : ¬ ((isN a (S.1.1 2) && isN b (S.1.1 2)) = true ∧ ¬ w < 0 ∧ cl w / 10 < 4 ∧ cl w % 10 < 4) → Z 36 (mdW 0 M) [some (.ref 0), some (.int a), some (.int b), some (.int w), some (.int x), none, none, none] [] := fun hf => by
    refine o.run 100 [] ?_
    show Z 38 (mdW 0 M) _ [.int (-(nI 1)), .ref 0]
    exact o.mrf h (by omega) (by rw [sEdge, if_neg hf])
  have good : ((isN a (S.1.1 2) && isN b (S.1.1 2)) = true ∧ ¬ w < 0 ∧ cl w / 10 < 4 ∧ cl w % 10 < 4) → Z 42 (mdW 0 M) [some (.ref 0), some (.int a), some (.int b), some (.int w), some (.int x), none, none, none] [] := fun hcd => by
    obtain ⟨hq1, hq2⟩ := Bool.and_eq_true_iff.mp hcd.1
    obtain ⟨ea, hal⟩ := isN_cl (by omega) hq1
    obtain ⟨eb, hbl⟩ := isN_cl (by omega) hq2
    obtain ⟨wn, hwn, rfl⟩ := nI_of hcd.2.1
    have hwn2 : cl (nI wn) = wn := nI_clamp (by omega)
    have hx4 : wn / 10 < 4 := by have := hcd.2.2.1; rwa [hwn2] at this
    have hy4 : wn % 10 < 4 := by have := hcd.2.2.2; rwa [hwn2] at this
    obtain ⟨an, han⟩ : ∃ k, k = cl a := ⟨_, rfl⟩
    obtain ⟨bn, hbn⟩ : ∃ k, k = cl b := ⟨_, rfl⟩
    rw [← han] at ea hal
    rw [← hbn] at eb hbl
    subst ea eb
    have han : cl (nI an) = an := han.symm
    have hbn : cl (nI bn) = bn := hbn.symm
    refine o.run 100 [] ?_
    show Z _ _ _ _
    refine o.cV vX4_219 (m_wrongYears (x := x) (n := S.1.1 3) (by omega) a2) (fun w' rv _ hpo => ?_)
    obtain ⟨rfl, rfl⟩ := hpo
    by_cases hz : whK x (S.1.1 3) = 0
    · obtain ⟨m, rfl, hm1, hm2, hn⟩ := wh0 hz
      have hcl : cl (nI m) = m := nI_clamp (by omega)
      rw [whR_0 hz]
      refine o.run 100 [62] ⟨fun _ => ?_, fun q => absurd (by decide) q⟩
      have ex : nI wn / nI 10 = nI (wn / 10) := pk_div (by omega) (by omega) (by omega)
      have ey : nI wn - nI wn / nI 10 * nI 10 = nI (wn % 10) := pk_rem (by omega) (by omega) (by omega)
      obtain ⟨f, hf⟩ : ∃ f : Nat → Bool, f = fun L => decide (edF S.1 (wn / 10) (wn % 10) m bn L < edF S.1 (wn / 10) (wn % 10) m an L) := ⟨_, rfl⟩
      have es : sEdge S (nI an) (nI bn) (nI wn) (nI m) = (fndI (fnd f 12 1), S) := by rw [sEdge, if_pos hcd, sRun, if_pos hz, hcl, han, hbn, hwn2, hf]
      have het : ∀ L, 0 < L → ∀ i, edT S.1 L (wn / 10) (wn % 10) i = if i % (2 * L) < L then wn / 10 else wn % 10 := fun L hL1 i => by
        have hm := Nat.mod_lt i (show 0 < 2 * L by omega)
        unfold edT skE
        by_cases hi : i % (2 * L) < L
        · rw [if_pos hi, if_pos hi]
        · rw [if_neg hi, if_neg hi, if_pos (by omega)]
      have hq : ∀ M1 L, repT M1 S.1 → 0 < L → L ≤ 12 → M1.1 33 = nI (wn / 10) → M1.1 34 = nI (wn % 10) → okQ (mN (opn (S.1.1 3) M1) 32 (nI L)) S.1 nob (S.1.2.2.2.1 0) (S.1.1 5) (ruT S.1) (edT S.1 L (wn / 10) (wn % 10)) (S.1.2.2.1 1) := fun M1 L h1 hL1 hL2 e33 e34 =>
        okQ_num (okQ_opn h1 hT) (sm0_N (sm0_rf _) (by omega) (by omega)) rfl ⟨h1.1.2.2.2.1, hT.1.2.2.2.2.2.2⟩ (okQ_opn h1 hT).2.2.2.2.2.1 (Or.inr ⟨L, wn / 10, wn % 10, ⟨hL1, hL2⟩, ⟨hx4, hy4⟩, ⟨rfl, e33, e34⟩, het L hL1⟩)
      have loop : ∀ j L, L + j = 13 → 0 < L → fnd f j L = fnd f 12 1 → ∀ x6 x7 M1, sm0 M M1 → Z 65 (mdW 0 M1) [some (.ref 0), some (.int (nI an)), some (.int (nI bn)), some (.int (nI wn)), some (.int (nI m)), some (.int (nI L)), x6, x7] [] := by
        intro j
        induction j with
        | zero =>
          intro L hL hL0 hfd x6 x7 M1 hs
          obtain rfl : L = 13 := by omega
          refine o.run 100 [] ⟨fun _ => ?_, fun q => absurd (by decide) q⟩
          refine mret (A' := (zi (-9), S)) ?_ M1 (repM_sm h hs)
          rw [es, ← hfd]; rfl
        | succ j ih =>
          intro L hL hL0 hfd x6 x7 M1 hs
          have h1 := repT_sm h.1 hs
          refine o.run 100 [] ⟨fun q => absurd (show nI 12 < nI L from q) (by rw [nI_ltI (by omega) (by omega)]; omega), fun _ => ?_⟩
          show Z _ _ _ _
          refine o.cV vX4_216 (m_open h1 hT) (fun w' rv _ hpo => ?_)
          obtain ⟨rfl, rfl⟩ := hpo
          refine o.run 100 [] ⟨by decide, by decide, ?_⟩
          show Z 104 (mdW 0 (mN (mN (mN (opn (S.1.1 3) M1) 32 (nI L)) 33 (nI wn / nI 10)) 34 (nI wn - nI wn / nI 10 * nI 10))) [some (.ref 0), some (.int (nI an)), some (.int (nI bn)), some (.int (nI wn)), some (.int (nI m)), some (.int (nI L)), x6, x7] [.int (nI m), .int (nI an), .int (nI an), .int (nI 0), .ref 0]
          rw [ey, ex]
          have hq1 : okQ (mN (mN (mN (opn (S.1.1 3) M1) 32 (nI L)) 33 (nI (wn / 10))) 34 (nI (wn % 10))) S.1 nob (S.1.2.2.2.1 0) (S.1.1 5) (ruT S.1) (edT S.1 L (wn / 10) (wn % 10)) (S.1.2.2.1 1) := okQ_num (okQ_opn h1 hT) (sm0_N (sm0_N (sm0_N (sm0_rf _) (by omega) (by omega)) (by omega) (by omega)) (by omega) (by omega)) rfl ⟨h1.1.2.2.2.1, hT.1.2.2.2.2.2.2⟩ (okQ_opn h1 hT).2.2.2.2.2.1 (Or.inr ⟨L, wn / 10, wn % 10, ⟨hL0, by omega⟩, ⟨hx4, hy4⟩, ⟨rfl, rfl, rfl⟩, het L hL0⟩)
          refine o.cV vX4_233 (m_faresInParts (k := 0) (a := an) (b := an) (m := m) hq1 hT hc hn hm2 (by omega) hal hal) (fun w' rv _ hpo => ?_)
          obtain ⟨⟨M2, rfl, hk⟩, rfl⟩ := hpo
          have hs2 : sm0 M M2 := sm0_tr hs (sm0_tr (sm0_N (sm0_N (sm0_N (opn_sm _ _) (by omega) (by omega)) (by omega) (by omega)) (by omega) (by omega)) hk.1)
          have h2 := repT_sm h.1 hs2
          have e33 : M2.1 33 = nI (wn / 10) := hk.2.1
          have e34 : M2.1 34 = nI (wn % 10) := hk.2.2
          refine o.run 100 [] ?_
          show Z _ _ _ _
          refine o.cV vX4_216 (m_open h2 hT) (fun w' rv _ hpo => ?_)
          obtain ⟨rfl, rfl⟩ := hpo
          refine o.run 100 [] ?_
          show Z 125 (mdW 0 (mN (opn (S.1.1 3) M2) 32 (nI L))) [some (.ref 0), some (.int (nI an)), some (.int (nI bn)), some (.int (nI wn)), some (.int (nI m)), some (.int (nI L)), some (.int (edF S.1 (wn / 10) (wn % 10) m an L)), x7] [.int (nI m), .int (nI bn), .int (nI bn), .int (nI 0), .ref 0]
          refine o.cV vX4_233 (m_faresInParts (k := 0) (a := bn) (b := bn) (m := m) (hq M2 L h2 hL0 (by omega) e33 e34) hT hc hn hm2 (by omega) hbl hbl) (fun w' rv _ hpo => ?_)
          obtain ⟨⟨M3, rfl, hk3⟩, rfl⟩ := hpo
          have hs3 : sm0 M M3 := sm0_tr hs2 (sm0_tr (sm0_N (opn_sm _ _) (by omega) (by omega)) hk3.1)
          have hfL : f L = decide (edF S.1 (wn / 10) (wn % 10) m bn L < edF S.1 (wn / 10) (wn % 10) m an L) := by rw [hf]
          refine o.run 100 [65] ⟨fun q => ?_, fun q => ?_⟩
          · have q : edF S.1 (wn / 10) (wn % 10) m an L ≤ edF S.1 (wn / 10) (wn % 10) m bn L := q
            have hn0 : ¬ f L = true := fun z => by rw [hfL] at z; exact Int32.not_lt.mpr q (of_decide_eq_true z)
            have := ih (L + 1) (by omega) (by omega) (by rw [← hfd, fnd, if_neg hn0]) (some (.int (edF S.1 (wn / 10) (wn % 10) m an L))) (some (.int (edF S.1 (wn / 10) (wn % 10) m bn L))) M3 hs3
            rw [← nI_1 L] at this
            exact this
          · have q : ¬ edF S.1 (wn / 10) (wn % 10) m an L ≤ edF S.1 (wn / 10) (wn % 10) m bn L := q
            have hn0 : f L = true := by rw [hfL]; exact decide_eq_true (Int32.not_le.mp q)
            refine mret (A' := (nI L, S)) ?_ M3 (repM_sm h hs3)
            rw [es, ← hfd, fnd, if_pos hn0]; rfl
      exact o.run 100 [65] (loop 12 1 (by omega) (by omega) rfl none none M (sm0_rf M))
    · obtain ⟨hk1, -, hk3, -⟩ := whR_k hz
      rw [hk1]
      refine o.run 100 [] ⟨fun q => absurd q (whK_neg hz), fun _ => ?_⟩
      show Z _ _ _ _
      refine o.cV (rest := [.ref 0]) vX4_219 (m_wrongYears (x := x) (n := S.1.1 3) (by omega) a2) (fun w' rv _ hpo => ?_)
      obtain ⟨rfl, rfl⟩ := hpo
      rw [hk1]
      exact o.mrf h hk3 (by rw [sEdge, if_pos hcd, sRun, if_neg hz])
  refine o.run 100 [] ?_
  show Z _ _ _ _
  refine o.cV vX4_156 (m_isRule (x := a) (by omega) a5) (fun w' rv _ hpo => ?_)
  obtain ⟨rfl, rfl⟩ := hpo
  refine o.run 100 [36] ⟨fun q => bad (fun z => ?_), fun q => ?_⟩
  · rw [(zB_0 _).mp q] at z; exact absurd z.1 (by simp)
  have hq1 := zB_t q
  show Z _ _ _ _
  refine o.cV vX4_156 (m_isRule (x := b) (by omega) a5) (fun w' rv _ hpo => ?_)
  obtain ⟨rfl, rfl⟩ := hpo
  refine o.run 100 [16, 36] ⟨fun q => bad (fun z => ?_), fun q => ?_⟩
  · rw [hq1, (zB_0 _).mp q] at z; exact absurd z.1 (by simp)
  have hq2 := zB_t q
  have hb : (isN a (S.1.1 2) && isN b (S.1.1 2)) = true := by rw [hq1, hq2]; rfl
  refine o.run 100 [20, 36] ⟨fun q => bad (fun z => z.2.1 q), fun q => ?_⟩
  obtain ⟨wn, hwn, rfl⟩ := nI_of q
  have hwn2 : cl (nI wn) = wn := nI_clamp (by omega)
  have ex : nI wn / nI 10 = nI (wn / 10) := pk_div (by omega) (by omega) (by omega)
  have ey : nI wn - nI wn / nI 10 * nI 10 = nI (wn % 10) := pk_rem (by omega) (by omega) (by omega)
  have hy10 := Nat.mod_lt wn (show 0 < 10 by omega)
  have hx10 : wn / 10 < 2 ^ 31 := by have := Nat.div_le_self wn 10; omega
  refine o.run 100 [36, 42] ⟨by decide, fun q1 => bad (fun z => ?_), fun q1 => ⟨by decide, fun q2 => good ⟨hb, q, ?_, ?_⟩, fun q2 => bad (fun z => ?_)⟩⟩
  · have q1 : nI 3 < nI wn / nI 10 := q1
    rw [ex, nI_ltI (by omega) hx10] at q1
    have := z.2.2.1
    rw [hwn2] at this
    omega
  · have q1 : ¬ nI 3 < nI wn / nI 10 := q1
    rw [ex, nI_ltI (by omega) hx10] at q1
    rw [hwn2]; omega
  · have q2 : nI wn - nI wn / nI 10 * nI 10 ≤ nI 3 := q2
    rw [ey, nI_leI (by omega) (by omega)] at q2
    rw [hwn2]; omega
  · have q2 : ¬ nI wn - nI wn / nI 10 * nI 10 ≤ nI 3 := q2
    rw [ey, nI_leI (by omega) (by omega)] at q2
    have := z.2.2.2
    rw [hwn2] at this
    omega
set_option maxRecDepth 10000 in
theorem m_shown (h : repM M S) (hT : okT S.1 c) (hc : c ≤ 100) {k x : Int32} : zPm l D C yX4_shown cX4_shown 4 5 [.int k, .int x] M (sShown S k x) := by
  have hWb : S.1.1 0 ≤ 6 := hT.1.1
  have hLb : 0 < S.1.1 1 ∧ S.1.1 1 ≤ 24 := ⟨hT.1.2.1, hT.1.2.2.1⟩
  have hrb : S.1.1 2 ≤ 10 := hT.1.2.2.2.1
  have hnb : S.1.1 3 ≤ 8 := hT.1.2.2.2.2.1
  obtain ⟨⟨⟨a0, a1, a2, a3, a4, a5⟩, ⟨b1, b2, b3, b4, b5, b6⟩, kn⟩, him, tx, rf⟩ := id h
  refine zFun_of (by decide) oX4_shown tbX4 (Nat.le_of_ble_eq_true rfl) (fun Z o => ?_)
  have r4 : (k < 0 ∨ x < nI 1) → Z 9 (mdW 0 M) [some (.ref 0), some (.int k), some (.int x), none] [] := fun hf => by
    have e : whKW k (nI 24) x (S.1.1 3) = 4 := by
      unfold whKW
      by_cases h1 : k < 0
      · rw [if_pos h1]
      · rw [if_neg h1, if_pos (hf.resolve_left h1)]
    refine o.run 100 [] ?_
    show Z 14 (mdW 0 M) _ [.int (-(nI 4)), .ref 0, .int (-1000000000)]
    exact o.mrff h (by omega) (by rw [sShown, sRunF, e, if_neg (by omega)])
  refine o.run 100 [9, 19] ⟨fun q => r4 (Or.inl q), fun q0 => ⟨fun q => ?_, fun q => r4 (Or.inr (Int32.not_le.mp q))⟩⟩
  have q1 : ¬ x < nI 1 := Int32.not_lt.mpr q
  have r6 : (nI 24 < k ∨ nI 60 < x) → Z 31 (mdW 0 M) [some (.ref 0), some (.int k), some (.int x), none] [] := fun hf => by
    have e : whKW k (nI 24) x (S.1.1 3) = 6 := by
      unfold whKW
      rw [if_neg q0, if_neg q1]
      by_cases h1 : nI 24 < k
      · rw [if_pos h1]
      · rw [if_neg h1, if_pos (hf.resolve_left h1)]
    refine o.run 100 [] ?_
    show Z 36 (mdW 0 M) _ [.int (-(nI 6)), .ref 0, .int (-1000000000)]
    exact o.mrff h (by omega) (by rw [sShown, sRunF, e, if_neg (by omega)])
  refine o.run 100 [31, 41] ⟨fun q => r6 (Or.inl q), fun q2 => ⟨fun q => ?_, fun q => r6 (Or.inr (Int32.not_le.mp q))⟩⟩
  have q2 : ¬ nI 24 < k := q2
  have q3 : ¬ nI 60 < x := Int32.not_lt.mpr q
  refine o.run 100 [58] ⟨fun q => ?_, fun q => ?_⟩
  · have q : ¬ M.1 4 = 0 := q
    rw [a2] at q
    have hn0 : ¬ S.1.1 3 = 0 := fun z => q (by rw [z]; decide)
    have hn : 0 < S.1.1 3 := by omega
    have hz : whKW k (nI 24) x (S.1.1 3) = 0 := by
      unfold whKW
      rw [if_neg q0, if_neg q1, if_neg q2, if_neg q3, if_neg hn0]
    obtain ⟨kn, hkn, rfl⟩ := nI_of q0
    obtain ⟨m, hm, rfl⟩ := nI_of (x := x) (fun z => q1 (Int32.lt_trans z (by decide)))
    rw [nI_ltI (by omega) (by omega)] at q1 q2 q3
    have hm2 : m ≤ 60 := by omega
    have hcl : cl (nI m) = m := nI_clamp (by omega)
    have hck : cl (nI kn) = kn := nI_clamp (by omega)
    refine o.run 100 [] ?_
    show Z _ _ _ _
    refine o.cV vX4_216 (m_open h.1 hT) (fun w' rv _ hpo => ?_)
    obtain ⟨rfl, rfl⟩ := hpo
    refine o.run 100 [] ?_
    show Z _ _ _ _
    refine o.cV vX4_222 (m_run (m := m) (okQ_opn h.1 hT) hT hc hn hm2) (fun w' rv _ hpo => ?_)
    obtain ⟨⟨M', r20, rfl, hr⟩, rfl⟩ := hpo
    have h' : repM M' S := repM_sm h (sm0_tr (opn_sm _ _) (smR_0 hr.1))
    have h1 := h'.1
    refine o.run 100 [] ?_
    show Z _ _ _ _
    refine o.cV vX4_216 (m_open h1 hT) (fun w' rv _ hpo => ?_)
    obtain ⟨rfl, rfl⟩ := hpo
    have hQ : okQ (mN (opn (S.1.1 3) M') 30 (nI kn)) S.1 nob (S.1.2.2.2.1 0) kn (ruT S.1) (tT S.1) (S.1.2.2.1 1) := okQ_num (okQ_opn h1 hT) (sm0_N (sm0_rf _) (by omega) (by omega)) rfl ⟨rfl, by omega⟩ (okQ_opn h1 hT).2.2.2.2.2.1 (okQ_opn h1 hT).2.2.2.2.2.2
    refine o.run 100 [] ?_
    show Z 79 (mdW 0 (mN (opn (S.1.1 3) M') 30 (nI kn))) [some (.ref 0), some (.int (nI kn)), some (.int (nI m)), some (.int (rFn S.1 (ruT S.1) m))] [.int (nI m), .ref 0]
    refine o.cV vX4_222 (m_run (m := m) hQ hT hc hn hm2) (fun w' rv _ hpo => ?_)
    obtain ⟨⟨M2, r20', rfl, hr2⟩, rfl⟩ := hpo
    refine o.run 100 [] (mret (A' := (rF S.1 nob (S.1.2.2.2.1 0) kn (ruT S.1) (tT S.1) m - rFn S.1 (ruT S.1) m, S)) ?_ M2 (repM_sm h' (sm0_tr (sm0_N (opn_sm _ _) (by omega) (by omega)) (smR_0 hr2.1))))
    rw [sShown, sRunF, if_pos hz, hcl, hck]
  · have q : M.1 4 = 0 := q
    rw [a2] at q
    have hn0 : S.1.1 3 = 0 := by
      rcases Nat.eq_zero_or_pos (S.1.1 3) with z | z
      · exact z
      · exact absurd q (nI_ne0 z (by omega))
    have e : whKW k (nI 24) x (S.1.1 3) = 3 := by
      unfold whKW
      rw [if_neg q0, if_neg q1, if_neg q2, if_neg q3, if_pos hn0]
    show Z 53 (mdW 0 M) _ [.int (-(nI 3)), .ref 0, .int (-1000000000)]
    exact o.mrff h (by omega) (by rw [sShown, sRunF, e, if_neg (by omega)])
/-- bits of those ahead, oneself left out -/
def mB (n p : Nat) : Nat → Int32
  | 0 => nI 0
  | i + 1 => mB n p i ||| (nI 1 <<< (nI ((p + 8 * n - (i + 1)) % n) &&& 31))
theorem ahd_eq : ∀ n, n < 9 → ∀ p, p < n → ∀ i, i < 8 → ahd n p i = (p + 8 * n - i) % n := by decide +kernel
theorem sb_or {x y : Int32} {o : Nat} (ho : o < 8) : sb (x ||| y) o = (sb x o || sb y o) := by
  rw [sb_bt (by omega), sb_bt (by omega), sb_bt (by omega), b_or]
theorem mB_eq {n p o : Nat} (hn : n < 9) (hp : p < n) (ho : o < n) (hpo : ¬ p = o) : ∀ i, i < 8 → sb (mB n p i) o = sb (ahB n p i) o
  | 0, _ => by
    show sb (nI 0) o = sb (nI 1 <<< (nI p &&& 31)) o
    rw [sb_zero, sb_shift (by omega) (by omega), decide_eq_false hpo]
  | i + 1, hi => by
    show sb (mB n p i ||| (nI 1 <<< (nI ((p + 8 * n - (i + 1)) % n) &&& 31))) o = sb (ahB n p i ||| (nI 1 <<< (nI (ahd n p (i + 1)) &&& 31))) o
    rw [sb_or (by omega), sb_or (by omega), mB_eq hn hp ho hpo i (by omega), ahd_eq n hn p hp (i + 1) hi]
set_option maxRecDepth 10000 in
theorem m_lessSeen (h : repM M S) (hT : okT S.1 c) (hc : c ≤ 100) {k x : Int32} : zPm l D C yX4_lessSeen cX4_lessSeen 7 5 [.int k, .int x] M (sLess S k x) := by
  have hWb : S.1.1 0 ≤ 6 := hT.1.1
  have hLb : 0 < S.1.1 1 ∧ S.1.1 1 ≤ 24 := ⟨hT.1.2.1, hT.1.2.2.1⟩
  have hrb : S.1.1 2 ≤ 10 := hT.1.2.2.2.1
  have hnb : S.1.1 3 ≤ 8 := hT.1.2.2.2.2.1
  obtain ⟨⟨⟨a0, a1, a2, a3, a4, a5⟩, ⟨b1, b2, b3, b4, b5, b6⟩, kn⟩, him, tx, rf⟩ := id h
  refine zFun_of (by decide) oX4_lessSeen tbX4 (Nat.le_of_ble_eq_true rfl) (fun Z o => ?_)
  have r4 : (k < 0 ∨ x < nI 1) → Z 9 (mdW 0 M) [some (.ref 0), some (.int k), some (.int x), none, none, none, none] [] := fun hf => by
    have e : whKW k (nI 7) x (S.1.1 3) = 4 := by
      unfold whKW
      by_cases h1 : k < 0
      · rw [if_pos h1]
      · rw [if_neg h1, if_pos (hf.resolve_left h1)]
    refine o.run 100 [] ?_
    show Z 14 (mdW 0 M) _ [.int (-(nI 4)), .ref 0, .int (-1000000000)]
    exact o.mrff h (by omega) (by rw [sLess, sRunF, e, if_neg (by omega)])
  refine o.run 100 [9, 19] ⟨fun q => r4 (Or.inl q), fun q0 => ⟨fun q => ?_, fun q => r4 (Or.inr (Int32.not_le.mp q))⟩⟩
  have q1 : ¬ x < nI 1 := Int32.not_lt.mpr q
  have r6 : (nI 7 < k ∨ nI 60 < x) → Z 31 (mdW 0 M) [some (.ref 0), some (.int k), some (.int x), none, none, none, none] [] := fun hf => by
    have e : whKW k (nI 7) x (S.1.1 3) = 6 := by
      unfold whKW
      rw [if_neg q0, if_neg q1]
      by_cases h1 : nI 7 < k
      · rw [if_pos h1]
      · rw [if_neg h1, if_pos (hf.resolve_left h1)]
    refine o.run 100 [] ?_
    show Z 36 (mdW 0 M) _ [.int (-(nI 6)), .ref 0, .int (-1000000000)]
    exact o.mrff h (by omega) (by rw [sLess, sRunF, e, if_neg (by omega)])
  refine o.run 100 [31, 41] ⟨fun q => r6 (Or.inl q), fun q2 => ⟨fun q => ?_, fun q => r6 (Or.inr (Int32.not_le.mp q))⟩⟩
  have q2 : ¬ nI 7 < k := q2
  have q3 : ¬ nI 60 < x := Int32.not_lt.mpr q
  refine o.run 100 [58] ⟨fun q => ?_, fun q => ?_⟩
  · have q : ¬ M.1 4 = 0 := q
    rw [a2] at q
    have hn0 : ¬ S.1.1 3 = 0 := fun z => q (by rw [z]; decide)
    have hn : 0 < S.1.1 3 := by omega
    have hz : whKW k (nI 7) x (S.1.1 3) = 0 := by
      unfold whKW
      rw [if_neg q0, if_neg q1, if_neg q2, if_neg q3, if_neg hn0]
    obtain ⟨kn, hkn, rfl⟩ := nI_of q0
    obtain ⟨m, hm, rfl⟩ := nI_of (x := x) (fun z => q1 (Int32.lt_trans z (by decide)))
    rw [nI_ltI (by omega) (by omega)] at q1 q2 q3
    have hm2 : m ≤ 60 := by omega
    have hcl : cl (nI m) = m := nI_clamp (by omega)
    have hck : cl (nI kn) = kn := nI_clamp (by omega)
    refine o.run 100 [] ?_
    show Z _ _ _ _
    refine o.cV vX4_216 (m_open h.1 hT) (fun w' rv _ hpo => ?_)
    obtain ⟨rfl, rfl⟩ := hpo
    refine o.run 100 [] ?_
    show Z _ _ _ _
    refine o.cV vX4_222 (m_run (m := m) (okQ_opn h.1 hT) hT hc hn hm2) (fun w' rv _ hpo => ?_)
    obtain ⟨⟨M', r20, rfl, hr⟩, rfl⟩ := hpo
    have h' : repM M' S := repM_sm h (sm0_tr (opn_sm _ _) (smR_0 hr.1))
    have h1 := h'.1
    refine o.run 100 [] ?_
    show Z _ _ _ _
    refine o.cV vX4_216 (m_open h1 hT) (fun w' rv _ hpo => ?_)
    obtain ⟨rfl, rfl⟩ := hpo
    have hQ0 := okQ_opn h1 hT
    have e4 : (opn (S.1.1 3) M').1 4 = nI (S.1.1 3) := hQ0.1.1.2.2.1
    obtain ⟨N, hN⟩ : ∃ N, N = opn (S.1.1 3) M' := ⟨_, rfl⟩
    rw [← hN] at hQ0 e4 ⊢
    have loop : ∀ j p, p + j = S.1.1 3 → ∀ x5 x6, Z 75 (mdW 0 (mR N 18 (mix p (fun q => mB (S.1.1 3) q kn) (N.2 18)))) [some (.ref 0), some (.int (nI kn)), some (.int (nI m)), some (.int (rFn S.1 (ruT S.1) m)), some (.int (nI p)), x5, x6] [] := by
      intro j
      induction j with
      | zero =>
        intro p hp x5 x6
        obtain rfl : p = S.1.1 3 := by omega
        refine o.run 100 [] ⟨fun _ => ?_, fun q => absurd (by show N.1 4 ≤ _; rw [e4]; exact nI_le (Nat.le_refl _) (by omega)) q⟩
        have hs18 : sm0 N (mR N 18 (mix (S.1.1 3) (fun q => mB (S.1.1 3) q kn) (N.2 18))) := sm0_R (sm0_rf _) (by omega) (by omega)
        have hQ : okQ (mR N 18 (mix (S.1.1 3) (fun q => mB (S.1.1 3) q kn) (N.2 18))) S.1 nob (fun p => ahB (S.1.1 3) p kn) (S.1.1 5) (ruT S.1) (tT S.1) (S.1.2.2.1 1) := by
          refine ⟨repT_sm hQ0.1 hs18, hQ0.2.1, hQ0.2.2.1, fun p q hp hq hpq => ?_, hQ0.2.2.2.2⟩
          show sb (mix (S.1.1 3) (fun q => mB (S.1.1 3) q kn) (N.2 18) p) q = sb (ahB (S.1.1 3) p kn) q
          rw [mix_lt hp]
          exact mB_eq (by omega) hp hq hpq kn (by omega)
        show Z _ _ _ _
        refine o.cV vX4_222 (m_run (m := m) hQ hT hc hn hm2) (fun w' rv _ hpo => ?_)
        obtain ⟨⟨M2, r20', rfl, hr2⟩, rfl⟩ := hpo
        have hsN : sm0 M' N := by rw [hN]; exact opn_sm _ _
        refine o.run 100 [] (mret (A' := (rF S.1 nob (fun p => ahB (S.1.1 3) p kn) (S.1.1 5) (ruT S.1) (tT S.1) m - rFn S.1 (ruT S.1) m, S)) ?_ M2 (repM_sm h' (sm0_tr hsN (sm0_tr hs18 (smR_0 hr2.1)))))
        rw [sLess, sRunF, if_pos hz, hcl, hck]
      | succ j ih =>
        intro p hp x5 x6
        have inner : ∀ i q, q + i = kn → Z 90 (mdW 0 (mR N 18 (mix p (fun q => mB (S.1.1 3) q kn) (N.2 18)))) [some (.ref 0), some (.int (nI kn)), some (.int (nI m)), some (.int (rFn S.1 (ruT S.1) m)), some (.int (nI p)), some (.int (mB (S.1.1 3) p q)), some (.int (nI (q + 1)))] [] := by
          intro i
          induction i with
          | zero =>
            intro q hq
            obtain rfl : q = kn := by omega
            refine o.run 100 [75] ⟨fun _ => ⟨p, rfl, by omega, ?_⟩, fun g => absurd (nI_lt (by omega) (by omega)) g⟩
            have := ih (p + 1) (by omega) (some (.int (mB (S.1.1 3) p q))) (some (.int (nI (q + 1))))
            rw [← mix_upd, ← nI_1 p] at this
            exact this
          | succ i ihi =>
            intro q hq
            have er : (nI p + nI 8 * N.1 4 - nI (q + 1)) - (nI p + nI 8 * N.1 4 - nI (q + 1)) / N.1 4 * N.1 4 = nI ((p + 8 * S.1.1 3 - (q + 1)) % S.1.1 3) := by
              rw [e4, pk_mul, nI_add, pk_sub (by omega)]
              exact pk_rem (by omega) hn (by omega)
            refine o.run 100 [90] ⟨fun g => absurd (show nI kn < nI (q + 1) from g) (by rw [nI_ltI (by omega) (by omega)]; omega), fun _ => ⟨?_, ?_⟩⟩
            · show ¬ N.1 4 = 0
              rw [e4]; exact nI_ne0 hn (by omega)
            · have := ihi (q + 1) (by omega)
              rw [mB, ← er, ← nI_1 (q + 1)] at this
              exact this
        refine o.run 100 [90] ⟨fun g => absurd g (by show ¬ N.1 4 ≤ _; rw [e4]; exact nI_ge (by omega) (by omega)), fun _ => ?_⟩
        exact inner kn 0 (by omega)
    have h0 := loop (S.1.1 3) 0 (by omega) none none
    rw [mix_0] at h0
    exact o.run 100 [75] h0
  · have q : M.1 4 = 0 := q
    rw [a2] at q
    have hn0 : S.1.1 3 = 0 := by
      rcases Nat.eq_zero_or_pos (S.1.1 3) with z | z
      · exact z
      · exact absurd q (nI_ne0 z (by omega))
    have e : whKW k (nI 7) x (S.1.1 3) = 3 := by
      unfold whKW
      rw [if_neg q0, if_neg q1, if_neg q2, if_neg q3, if_pos hn0]
    show Z 53 (mdW 0 M) _ [.int (-(nI 3)), .ref 0, .int (-1000000000)]
    exact o.mrff h (by omega) (by rw [sLess, sRunF, e, if_neg (by omega)])
end MP5
