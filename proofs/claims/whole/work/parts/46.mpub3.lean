/-! the reference's public methods, 3: runs -/
theorem whK_neg {x : Int32} {n : Nat} (h : ¬ whK x n = 0) : ¬ (0 : Int32) ≤ -(nI (whK x n)) := by
  revert h
  unfold whK
  split
  · exact fun _ => by decide
  · split
    · exact fun _ => by decide
    · split
      · exact fun _ => by decide
      · exact fun h => absurd rfl h
theorem vat_hi {n W : Nat} {b : Nat → Int32} {see : Nat → Nat → Nat → Bool} {dn : Nat → Int32 → Int32 × Nat} {tw : Nat → Nat} {y0 : Nat} {v : Nat → Nat} {p : Nat} (hp : n ≤ p) : ∀ i, vat n W b see dn tw y0 v i p = v p
  | 0 => rfl
  | i + 1 => by
    show yst n W b (see (y0 + i)) dn (tw i) (y0 + i) (vat n W b see dn tw y0 v i) p = v p
    unfold yst
    rw [if_neg (by omega)]
    exact vat_hi hp i
section MP3
variable {l : Launch} {D : va_G} {C : zC} {M : zM} {S : zF} {c : Nat}
set_option maxRecDepth 10000 in
theorem m_fares (h : repM M S) (hT : okT S.1 c) (hc : c ≤ 100) {x : Int32} : zPm l D C yX4_fares cX4_fares 2 5 [.int x] M (sFares S x) := by
  have hWb : S.1.1 0 ≤ 6 := hT.1.1
  have hLb : 0 < S.1.1 1 ∧ S.1.1 1 ≤ 24 := ⟨hT.1.2.1, hT.1.2.2.1⟩
  have hrb : S.1.1 2 ≤ 10 := hT.1.2.2.2.1
  have hnb : S.1.1 3 ≤ 8 := hT.1.2.2.2.2.1
  obtain ⟨⟨⟨a0, a1, a2, a3, a4, a5⟩, ⟨b1, b2, b3, b4, b5, b6⟩, kn⟩, him, tx, rf⟩ := id h
  refine zFun_of (by decide) oX4_fares tbX4 (Nat.le_of_ble_eq_true rfl) (fun Z o => ?_)
  refine o.run 100 [] ?_
  show Z _ _ _ _
  refine o.cV vX4_219 (m_wrongYears (x := x) (n := S.1.1 3) (by omega) a2) (fun w' rv _ hpo => ?_)
  obtain ⟨rfl, rfl⟩ := hpo
  by_cases hz : whK x (S.1.1 3) = 0
  · obtain ⟨m, rfl, hm1, hm2, hn⟩ := wh0 hz
    have hcl : cl (nI m) = m := nI_clamp (by omega)
    rw [whR_0 hz]
    refine o.run 100 [18] ⟨fun _ => ?_, fun q => absurd (by decide) q⟩
    refine o.run 100 [] ?_
    show Z _ _ _ _
    refine o.cV vX4_216 (m_open h.1 hT) (fun w' rv _ hpo => ?_)
    obtain ⟨rfl, rfl⟩ := hpo
    refine o.run 100 [] ?_
    show Z _ _ _ _
    refine o.cV vX4_222 (m_run (m := m) (okQ_opn h.1 hT) hT hc hn hm2) (fun w' rv _ hpo => ?_)
    obtain ⟨⟨M', r20, rfl, hr⟩, rfl⟩ := hpo
    have h' : repM M' S := repM_sm h (sm0_tr (opn_sm _ _) (smR_0 hr.1))
    exact o.run 100 [] (mret (A' := (rFn S.1 (ruT S.1) m, S)) (by rw [sFares, sRun, if_pos hz, hcl]) M' h')
  · obtain ⟨hk1, -, hk3, -⟩ := whR_k hz
    rw [hk1]
    refine o.run 100 [] ⟨fun q => absurd q (whK_neg hz), fun _ => ?_⟩
    show Z _ _ _ _
    refine o.cV (rest := [.ref 0]) vX4_219 (m_wrongYears (x := x) (n := S.1.1 3) (by omega) a2) (fun w' rv _ hpo => ?_)
    obtain ⟨rfl, rfl⟩ := hpo
    rw [hk1]
    exact o.mrf h hk3 (by rw [sFares, sRun, if_neg hz])
set_option maxRecDepth 10000 in
theorem m_wrong (h : repM M S) (hT : okT S.1 c) (hc : c ≤ 100) {x : Int32} : zPm l D C yX4_wrong cX4_wrong 2 5 [.int x] M (sWrong S x) := by
  have hWb : S.1.1 0 ≤ 6 := hT.1.1
  have hLb : 0 < S.1.1 1 ∧ S.1.1 1 ≤ 24 := ⟨hT.1.2.1, hT.1.2.2.1⟩
  have hrb : S.1.1 2 ≤ 10 := hT.1.2.2.2.1
  have hnb : S.1.1 3 ≤ 8 := hT.1.2.2.2.2.1
  obtain ⟨⟨⟨a0, a1, a2, a3, a4, a5⟩, ⟨b1, b2, b3, b4, b5, b6⟩, kn⟩, him, tx, rf⟩ := id h
  refine zFun_of (by decide) oX4_wrong tbX4 (Nat.le_of_ble_eq_true rfl) (fun Z o => ?_)
  refine o.run 100 [] ?_
  show Z _ _ _ _
  refine o.cV vX4_219 (m_wrongYears (x := x) (n := S.1.1 3) (by omega) a2) (fun w' rv _ hpo => ?_)
  obtain ⟨rfl, rfl⟩ := hpo
  by_cases hz : whK x (S.1.1 3) = 0
  · obtain ⟨m, rfl, hm1, hm2, hn⟩ := wh0 hz
    have hcl : cl (nI m) = m := nI_clamp (by omega)
    rw [whR_0 hz]
    refine o.run 100 [18] ⟨fun _ => ?_, fun q => absurd (by decide) q⟩
    refine o.run 100 [] ?_
    show Z _ _ _ _
    refine o.cV vX4_216 (m_open h.1 hT) (fun w' rv _ hpo => ?_)
    obtain ⟨rfl, rfl⟩ := hpo
    refine o.run 100 [] ?_
    show Z _ _ _ _
    refine o.cV vX4_222 (m_run (m := m) (okQ_opn h.1 hT) hT hc hn hm2) (fun w' rv _ hpo => ?_)
    obtain ⟨⟨M', r20, rfl, hr⟩, rfl⟩ := hpo
    have h' : repM M' S := repM_sm h (sm0_tr (opn_sm _ _) (smR_0 hr.1))
    refine o.run 100 [] (mret (A' := (M'.1 37, S)) ?_ M' h')
    rw [sWrong, sRun, if_pos hz, hcl, hr.2.2.2.2.1]; rfl
  · obtain ⟨hk1, -, hk3, -⟩ := whR_k hz
    rw [hk1]
    refine o.run 100 [] ⟨fun q => absurd q (whK_neg hz), fun _ => ?_⟩
    show Z _ _ _ _
    refine o.cV (rest := [.ref 0]) vX4_219 (m_wrongYears (x := x) (n := S.1.1 3) (by omega) a2) (fun w' rv _ hpo => ?_)
    obtain ⟨rfl, rfl⟩ := hpo
    rw [hk1]
    exact o.mrf h hk3 (by rw [sWrong, sRun, if_neg hz])
set_option maxRecDepth 10000 in
theorem m_alike (h : repM M S) (hT : okT S.1 c) (hc : c ≤ 100) {x : Int32} : zPm l D C yX4_alike cX4_alike 2 5 [.int x] M (sAlike S x) := by
  have hWb : S.1.1 0 ≤ 6 := hT.1.1
  have hLb : 0 < S.1.1 1 ∧ S.1.1 1 ≤ 24 := ⟨hT.1.2.1, hT.1.2.2.1⟩
  have hrb : S.1.1 2 ≤ 10 := hT.1.2.2.2.1
  have hnb : S.1.1 3 ≤ 8 := hT.1.2.2.2.2.1
  obtain ⟨⟨⟨a0, a1, a2, a3, a4, a5⟩, ⟨b1, b2, b3, b4, b5, b6⟩, kn⟩, him, tx, rf⟩ := id h
  refine zFun_of (by decide) oX4_alike tbX4 (Nat.le_of_ble_eq_true rfl) (fun Z o => ?_)
  refine o.run 100 [] ?_
  show Z _ _ _ _
  refine o.cV vX4_219 (m_wrongYears (x := x) (n := S.1.1 3) (by omega) a2) (fun w' rv _ hpo => ?_)
  obtain ⟨rfl, rfl⟩ := hpo
  by_cases hz : whK x (S.1.1 3) = 0
  · obtain ⟨m, rfl, hm1, hm2, hn⟩ := wh0 hz
    have hcl : cl (nI m) = m := nI_clamp (by omega)
    rw [whR_0 hz]
    refine o.run 100 [18] ⟨fun _ => ?_, fun q => absurd (by decide) q⟩
    refine o.run 100 [] ?_
    show Z _ _ _ _
    refine o.cV vX4_216 (m_open h.1 hT) (fun w' rv _ hpo => ?_)
    obtain ⟨rfl, rfl⟩ := hpo
    refine o.run 100 [] ?_
    show Z _ _ _ _
    refine o.cV vX4_222 (m_run (m := m) (okQ_opn h.1 hT) hT hc hn hm2) (fun w' rv _ hpo => ?_)
    obtain ⟨⟨M', r20, rfl, hr⟩, rfl⟩ := hpo
    have h' : repM M' S := repM_sm h (sm0_tr (opn_sm _ _) (smR_0 hr.1))
    refine o.run 100 [] (mret (A' := (M'.1 38, S)) ?_ M' h')
    rw [sAlike, sRun, if_pos hz, hcl, hr.2.2.2.2.2]
  · obtain ⟨hk1, -, hk3, -⟩ := whR_k hz
    rw [hk1]
    refine o.run 100 [] ⟨fun q => absurd q (whK_neg hz), fun _ => ?_⟩
    show Z _ _ _ _
    refine o.cV (rest := [.ref 0]) vX4_219 (m_wrongYears (x := x) (n := S.1.1 3) (by omega) a2) (fun w' rv _ hpo => ?_)
    obtain ⟨rfl, rfl⟩ := hpo
    rw [hk1]
    exact o.mrf h hk3 (by rw [sAlike, sRun, if_neg hz])
set_option maxRecDepth 10000 in
theorem m_go (h : repM M S) (hT : okT S.1 c) (hc : c ≤ 100) {x : Int32} : zPm l D C yX4_go cX4_go 3 5 [.int x] M (sGo S x) := by
  have hWb : S.1.1 0 ≤ 6 := hT.1.1
  have hLb : 0 < S.1.1 1 ∧ S.1.1 1 ≤ 24 := ⟨hT.1.2.1, hT.1.2.2.1⟩
  have hrb : S.1.1 2 ≤ 10 := hT.1.2.2.2.1
  have hnb : S.1.1 3 ≤ 8 := hT.1.2.2.2.2.1
  obtain ⟨⟨⟨a0, a1, a2, a3, a4, a5⟩, ⟨b1, b2, b3, b4, b5, b6⟩, kn⟩, him, tx, rf⟩ := id h
  refine zFun_of (by decide) oX4_go tbX4 (Nat.le_of_ble_eq_true rfl) (fun Z o => ?_)
  refine o.run 100 [] ?_
  show Z _ _ _ _
  refine o.cV vX4_219 (m_wrongYears (x := x) (n := S.1.1 3) (by omega) a2) (fun w' rv _ hpo => ?_)
  obtain ⟨rfl, rfl⟩ := hpo
  by_cases hz : whK x (S.1.1 3) = 0
  · obtain ⟨m, rfl, hm1, hm2, hn⟩ := wh0 hz
    have hcl : cl (nI m) = m := nI_clamp (by omega)
    rw [whR_0 hz]
    refine o.run 100 [18] ⟨fun _ => ?_, fun q => absurd (by decide) q⟩
    refine o.run 100 [] ?_
    show Z _ _ _ _
    refine o.cV vX4_216 (m_open h.1 hT) (fun w' rv _ hpo => ?_)
    obtain ⟨rfl, rfl⟩ := hpo
    refine o.run 100 [] ?_
    show Z _ _ _ _
    refine o.cV vX4_222 (m_run (m := m) (okQ_opn h.1 hT) hT hc hn hm2) (fun w' rv _ hpo => ?_)
    obtain ⟨⟨M', r20, rfl, hr⟩, rfl⟩ := hpo
    have h' : repM M' S := repM_sm h (sm0_tr (opn_sm _ _) (smR_0 hr.1))
    obtain ⟨⟨⟨c0, c1, c2, c3, c4, c5⟩, ⟨d1, d2, d3, d4, d5, d6⟩, kn'⟩, him', tx', rf'⟩ := id h'
    have loop : ∀ j p, p + j = S.1.1 3 → Z 30 (mdW 0 (mR (mR M' 6 (mix p (fun q => M'.2 6 q + M'.2 19 q) (M'.2 6))) 3 (mix p (M'.2 16) (M'.2 3)))) [some (.ref 0), some (.int (nI m)), some (.int (nI p))] [] := by
      intro j
      induction j with
      | zero =>
        intro p hp
        obtain rfl : p = S.1.1 3 := by omega
        refine o.run 100 [] ⟨fun _ => mret (A' := (M'.1 10 + nI m, sW S (goT S.1 m))) ?_ (mN (mR (mR M' 6 (mix (S.1.1 3) (fun q => M'.2 6 q + M'.2 19 q) (M'.2 6))) 3 (mix (S.1.1 3) (M'.2 16) (M'.2 3))) 10 (M'.1 10 + nI m)) ?_, fun q => absurd (by show M'.1 4 ≤ _; rw [c2]; exact nI_le (Nat.le_refl _) (by omega)) q⟩
        · rw [sGo, sRun, if_pos hz, hcl, c4, nI_add]
        · refine ⟨⟨⟨c0, c1, c2, c3, ?_, c5⟩, ⟨d1, d2, ?_, d4, d5, ?_⟩, kn'⟩, him', tx', rf'⟩
          · show M'.1 10 + nI m = nI (S.1.1 4 + m)
            rw [c4, nI_add]
          · show mix (S.1.1 3) (M'.2 16) (M'.2 3) = fun j => nI (rVn S.1 (ruT S.1) m j)
            funext j
            by_cases hj : j < S.1.1 3
            · rw [mix_lt hj]; exact hr.2.1 j hj
            · rw [mix_ge (by omega), d3]
              show nI (S.1.2.2.1 1 j) = nI (vat _ _ _ _ _ _ _ _ m j)
              rw [vat_hi (by omega)]
          · show mix (S.1.1 3) (fun q => M'.2 6 q + M'.2 19 q) (M'.2 6) = mix (S.1.1 3) (fun p => S.1.2.2.2.1 1 p + rGn S.1 (ruT S.1) m p) (S.1.2.2.2.1 1)
            funext j
            by_cases hj : j < S.1.1 3
            · rw [mix_lt hj, mix_lt hj, d6, hr.2.2.1 j hj]
            · rw [mix_ge (by omega), mix_ge (by omega), d6]
      | succ j ih =>
        intro p hp
        refine o.run 100 [30] ⟨fun q => absurd q (by show ¬ M'.1 4 ≤ _; rw [c2]; exact nI_ge (by omega) (by omega)), fun _ => ⟨p, rfl, by omega, p, rfl, by omega, p, rfl, by omega, p, rfl, by omega, p, rfl, by omega, ?_⟩⟩
        have := ih (p + 1) (by omega)
        have eg : M'.2 6 p + M'.2 19 p = mix p (fun q => M'.2 6 q + M'.2 19 q) (M'.2 6) p + M'.2 19 p := by rw [mix_ge (Nat.le_refl p)]
        rw [← mix_upd, ← mix_upd, eg, ← nI_1 p] at this
        exact this
    have h0 := loop (S.1.1 3) 0 (by omega)
    rw [mix_0, mix_0] at h0
    exact o.run 100 [30] h0
  · obtain ⟨hk1, -, hk3, -⟩ := whR_k hz
    rw [hk1]
    refine o.run 100 [] ⟨fun q => absurd q (whK_neg hz), fun _ => ?_⟩
    show Z _ _ _ _
    refine o.cV (rest := [.ref 0]) vX4_219 (m_wrongYears (x := x) (n := S.1.1 3) (by omega) a2) (fun w' rv _ hpo => ?_)
    obtain ⟨rfl, rfl⟩ := hpo
    rw [hk1]
    exact o.mrf h hk3 (by rw [sGo, sRun, if_neg hz])
set_option maxRecDepth 10000 in
theorem m_next (h : repM M S) (hT : okT S.1 c) (hc : c ≤ 100) {p : Int32} : zPm l D C yX4_next cX4_next 2 4 [.int p] M (sNext S p) := by
  have hWb : S.1.1 0 ≤ 6 := hT.1.1
  have hLb : 0 < S.1.1 1 ∧ S.1.1 1 ≤ 24 := ⟨hT.1.2.1, hT.1.2.2.1⟩
  have hrb : S.1.1 2 ≤ 10 := hT.1.2.2.2.1
  have hnb : S.1.1 3 ≤ 8 := hT.1.2.2.2.2.1
  obtain ⟨⟨⟨a0, a1, a2, a3, a4, a5⟩, ⟨b1, b2, b3, b4, b5, b6⟩, kn⟩, him, tx, rf⟩ := id h
  refine zFun_of (by decide) oX4_next tbX4 (Nat.le_of_ble_eq_true rfl) (fun Z o => ?_)
  have hy : S.1.1 4 ≤ 6000 := by have := hT.1.2.2.2.2.2.1; omega
  refine o.run 100 [] ?_
  show Z _ _ _ _
  refine o.cV vX4_159 (m_isPerson (x := p) (by omega) a2) (fun w' rv _ hpo => ?_)
  obtain ⟨rfl, rfl⟩ := hpo
  refine o.run 100 [14] ⟨fun q => ?_, fun q => ?_⟩
  · have hp := zB_t q
    obtain ⟨ep, hpl⟩ := isN_cl (by omega) hp
    refine o.run 100 [] ?_
    show Z _ _ _ _
    refine o.cV vX4_216 (m_open h.1 hT) (fun w' rv _ hpo => ?_)
    obtain ⟨rfl, rfl⟩ := hpo
    obtain ⟨pn, hpn⟩ : ∃ k, k = cl p := ⟨_, rfl⟩
    rw [← hpn] at ep hpl
    subst ep
    have hQ := okQ_opn h.1 hT
    refine o.run 100 [] ⟨?_, S.1.1 4 % S.1.1 1, ?_, ?_, ?_⟩
    · show ¬ M.1 3 = 0
      rw [a1]; exact nI_ne0 hLb.1 (by omega)
    · show M.1 10 - M.1 10 / M.1 3 * M.1 3 = _
      rw [a1, a4]; exact pk_rem (by omega) hLb.1 (by omega)
    · have := Nat.mod_lt (S.1.1 4) hLb.1; omega
    · show Z 38 (mdW 0 (opn (S.1.1 3) M)) [some (.ref 0), some (.int (nI pn))] [.int (M.2 2 (S.1.1 4 % S.1.1 1)), .int (M.1 10), .int (nI pn), .ref 0]
      rw [b2, a4]
      refine o.cV vX4_213 (m_chosen (p := pn) (y := S.1.1 4) (w := S.1.2.2.1 0 (S.1.1 4 % S.1.1 1)) hQ hT hpl (by omega) (hT.2.2.1 _).1) (fun w' rv _ hpo => ?_)
      obtain ⟨rfl, rfl⟩ := hpo
      refine o.run 100 [] ⟨⟨_, rfl, rfl⟩, rfl, ⟨opn (S.1.1 3) M, rfl, ?_⟩, ?_⟩
      · rw [sNext, if_pos hp]; exact repM_sm h (opn_sm _ _)
      · rw [sNext, if_pos hp, ← hpn]
        have e : rVn S.1 (ruT S.1) 1 pn = cho (S.1.1 3) (S.1.1 0) (S.1.1 4 + 0) (S.1.2.2.1 1) (seeS (S.1.1 5) nob (S.1.2.2.2.1 0) (S.1.1 4 + 0) pn) (fun o => S.1.2.1 (S.1.2.2.1 1 o * 4 + tT S.1 0)) pn (S.1.2.2.2.2 (ruT S.1 pn) (S.1.2.1 (S.1.2.2.1 1 pn * 4 + tT S.1 0))).1 (S.1.2.2.2.2 (ruT S.1 pn) (S.1.2.1 (S.1.2.2.1 1 pn * 4 + tT S.1 0))).2 := if_pos hpl
        show _ = some (Value.int (nI (rVn S.1 (ruT S.1) 1 pn)))
        rw [e]
        rfl
  · show Z 10 (mdW 0 M) _ [.int (-(nI 1)), .ref 0]
    exact o.mrf h (by omega) (by rw [sNext, (zB_0 _).mp q]; rfl)
end MP3
