/-! the reference: a run laid out, in parts; what one gains -/
def opn (n : Nat) (M : zM) : zM := mN (mN (mN (mR (mR (mR M 16 (mix n (M.2 3) (M.2 16))) 17 (mix n (M.2 4) (M.2 17))) 18 (mix n (M.2 5) (M.2 18))) 30 (M.1 9)) 31 (zi (-1))) 32 (nI 0)
theorem opn_sm (n : Nat) (M : zM) : sm0 M (opn n M) := sm0_N (sm0_N (sm0_N (sm0_R (sm0_R (sm0_R (sm0_rf M) (by omega) (by omega)) (by omega) (by omega)) (by omega) (by omega)) (by omega) (by omega)) (by omega) (by omega)) (by omega) (by omega)
theorem okQ_opn {M : zM} {t : zT} {c : Nat} (h : repT M t) (hT : okT t c) : okQ (opn (t.1 3) M) t nob (t.2.2.2.1 0) (t.1 5) (ruT t) (tT t) (t.2.2.1 1) := by
  have h' := repT_sm h (opn_sm (t.1 3) M)
  obtain ⟨⟨a0, a1, a2, a3, a4, a5⟩, ⟨b1, b2, b3, b4, b5, b6⟩, kn⟩ := h
  have hd3 := hT.2.2.2.1
  refine ⟨h', fun p hp => ⟨?_, (hd3 p hp).2⟩, fun p hp => ⟨?_, (hd3 p hp).1⟩, fun p o hp ho _ => ?_, ⟨a3, hT.1.2.2.2.2.2.2⟩, fun o ho => ⟨fun e => ?_, fun e => by cases e⟩, Or.inl ⟨rfl, fun i => rfl⟩⟩
  · show mix (t.1 3) (M.2 3) (M.2 16) p = _
    rw [mix_lt hp, b3]
  · show mix (t.1 3) (M.2 4) (M.2 17) p = _
    rw [mix_lt hp, b4]
  · show sb (mix (t.1 3) (M.2 5) (M.2 18) p) o = _
    rw [mix_lt hp, b5]
  · have e : nI o = zi (-1) := e
    have hn : t.1 3 ≤ 8 := hT.1.2.2.2.2.1
    have h1 : ¬ nI o < 0 := nI_pos (by omega)
    rw [e] at h1
    exact absurd (by decide) h1
/-- a laid out run with others' rules -/
theorem okQ_ru {M : zM} {t : zT} {bl : Nat → Bool} {se : Nat → Int32} {sh : Nat} {ru tw v : Nat → Nat} {f : Nat → Int32} {ru' : Nat → Nat} (h : okQ M t bl se sh ru tw v) (hr : ∀ p, p < t.1 3 → f p = nI (ru' p) ∧ ru' p < t.1 2) : okQ (mR M 17 f) t bl se sh ru' tw v :=
  ⟨repT_sm h.1 (sm0_R (sm0_rf M) (by omega) (by omega)), h.2.1, hr, h.2.2.2.1, h.2.2.2.2.1, h.2.2.2.2.2.1, h.2.2.2.2.2.2⟩
section MO
variable {l : Launch} {D : va_G} {C : zC} {M : zM} {t : zT} {c : Nat}
set_option maxRecDepth 10000 in
theorem m_open (h : repT M t) (hT : okT t c) : zFun l D C yX4_open cX4_open 2 none (zR 0) [.ref 0] (mdW 0 M) (fun w rv => w = mdW 0 (opn (t.1 3) M) ∧ rv = none) := by
  have hnb : t.1 3 ≤ 8 := hT.1.2.2.2.2.1
  have a2 := h.1.2.2.1
  refine zFun_of (by decide) oX4_open tbX4 (Nat.le_of_ble_eq_true rfl) (fun Z o => ?_)
  have loop : ∀ j k, k + j = t.1 3 → Z 2 (mdW 0 (mR (mR (mR M 16 (mix k (M.2 3) (M.2 16))) 17 (mix k (M.2 4) (M.2 17))) 18 (mix k (M.2 5) (M.2 18)))) [some (.ref 0), some (.int (nI k))] [] := by
    intro j
    induction j with
    | zero =>
      intro k hk
      obtain rfl : k = t.1 3 := by omega
      exact o.run 100 [] ⟨fun _ => ⟨rfl, rfl, rfl, rfl⟩, fun q => absurd (by show M.1 4 ≤ _; rw [a2]; exact nI_le (Nat.le_refl _) (by omega)) q⟩
    | succ j ih =>
      intro k hk
      refine o.run 100 [2] ⟨fun q => absurd q (by show ¬ M.1 4 ≤ _; rw [a2]; exact nI_ge (by omega) (by omega)), fun _ => ⟨k, rfl, by omega, k, rfl, by omega, k, rfl, by omega, k, rfl, by omega, k, rfl, by omega, k, rfl, by omega, ?_⟩⟩
      have := ih (k + 1) (by omega)
      rw [← mix_upd, ← mix_upd, ← mix_upd, ← nI_1 k] at this
      exact this
  have h0 := loop (t.1 3) 0 (by omega)
  rw [mix_0, mix_0, mix_0] at h0
  exact o.run 100 [2] h0
variable {bl : Nat → Bool} {se : Nat → Int32} {sh : Nat} {ru tw : Nat → Nat}
/-- what a run leaves -/
def keep (M M' : zM) : Prop := sm0 M M' ∧ M'.1 33 = M.1 33 ∧ M'.1 34 = M.1 34
theorem keep_sm {M M' : zM} (h : smR M M') : keep M M' := ⟨smR_0 h, h.1 33 (by omega) (by omega), h.1 34 (by omega) (by omega)⟩
theorem keep_tr {M M' M'' : zM} (h : keep M M') (h' : keep M' M'') : keep M M'' := ⟨sm0_tr h.1 h'.1, h'.2.1.trans h.2.1, h'.2.2.trans h.2.2⟩
theorem keep_17 {M : zM} {f : Nat → Int32} : keep M (mR M 17 f) := ⟨sm0_R (sm0_rf M) (by omega) (by omega), rfl, rfl⟩
theorem keep_opn {M : zM} {n : Nat} : keep M (opn n M) := ⟨opn_sm n M, rfl, rfl⟩
set_option maxRecDepth 10000 in
theorem m_faresInParts {k a b m : Nat} (h : okQ M t bl se sh ru tw (t.2.2.1 1)) (hT : okT t c) (hc : c ≤ 100) (hn : 0 < t.1 3) (hm : m ≤ 60) (hk : k ≤ 8) (ha : a < t.1 2) (hb : b < t.1 2) : zFun l D C yX4_faresInParts cX4_faresInParts 6 (some .int) (zR 5) [.ref 0, .int (nI k), .int (nI a), .int (nI b), .int (nI m)] (mdW 0 M) (fun w rv => (∃ M', w = mdW 0 M' ∧ keep M M') ∧ rv = some (.int (rF t bl se sh (rPart (t.1 3) a b k ru) tw m))) := by
  have hnb : t.1 3 ≤ 8 := hT.1.2.2.2.2.1
  have a2 := h.1.1.2.2.1
  refine zFun_of (by decide) oX4_faresInParts tbX4 (Nat.le_of_ble_eq_true rfl) (fun Z o => ?_)
  have loop : ∀ j p, p + j = t.1 3 → Z 3 (mdW 0 (mR M 17 (mix p (fun q => if q < k then nI a else nI b) (M.2 17)))) [some (.ref 0), some (.int (nI k)), some (.int (nI a)), some (.int (nI b)), some (.int (nI m)), some (.int (nI p))] [] := by
    intro j
    induction j with
    | zero =>
      intro p hp
      obtain rfl : p = t.1 3 := by omega
      refine o.run 100 [] ⟨fun _ => ?_, fun q => absurd (by show M.1 4 ≤ _; rw [a2]; exact nI_le (Nat.le_refl _) (by omega)) q⟩
      have hQ : okQ (mR M 17 (mix (t.1 3) (fun q => if q < k then nI a else nI b) (M.2 17))) t bl se sh (rPart (t.1 3) a b k ru) tw (t.2.2.1 1) := okQ_ru h (fun p hp => by
        rw [mix_lt hp]
        unfold rPart
        rw [if_pos hp]
        by_cases hpk : p < k
        · rw [if_pos hpk, if_pos hpk]; exact ⟨rfl, ha⟩
        · rw [if_neg hpk, if_neg hpk]; exact ⟨rfl, hb⟩)
      show Z _ _ _ _
      refine o.cV vX4_222 (m_run (m := m) hQ hT hc hn hm) (fun w' rv _ hpo => ?_)
      obtain ⟨⟨M', r20, rfl, hr⟩, rfl⟩ := hpo
      exact o.run 100 [] ⟨⟨_, rfl, rfl⟩, rfl, ⟨M', rfl, keep_tr keep_17 (keep_sm hr.1)⟩, rfl⟩
    | succ j ih =>
      intro p hp
      have hnx := ih (p + 1) (by omega)
      rw [← mix_upd, ← nI_1 p] at hnx
      refine o.run 100 [3] ⟨fun q => absurd q (by show ¬ M.1 4 ≤ _; rw [a2]; exact nI_ge (by omega) (by omega)), fun _ => ⟨fun q => ⟨p, rfl, by omega, ?_⟩, fun q => ⟨p, rfl, by omega, ?_⟩⟩⟩
      · have q : nI k ≤ nI p := q
        rw [nI_leI (by omega) (by omega)] at q
        rw [if_neg (by omega)] at hnx
        exact hnx
      · have q : ¬ nI k ≤ nI p := q
        rw [nI_leI (by omega) (by omega)] at q
        rw [if_pos (by omega)] at hnx
        exact hnx
  have h0 := loop (t.1 3) 0 (by omega)
  rw [mix_0] at h0
  exact o.run 100 [3] h0
/-- the rules lived by: as they are, or in parts -/
def ruB (t : zT) (a b : Nat) : Option Nat → Nat → Nat
  | none => ruT t
  | some k => rPart (t.1 3) a b k (ruT t)
def ruO (p : Nat) (ru : Nat → Nat) : Option Nat → Nat → Nat
  | none => ru
  | some r => rOne p r ru
set_option maxRecDepth 10000 in
theorem m_ownIn {p m a b : Nat} {ro fo : Option Nat} (h : repT M t) (hT : okT t c) (hc : c ≤ 100) (hm : m ≤ 60) (hp : p < t.1 3) (hr : ∀ r, ro = some r → r < t.1 2) (hf : ∀ k, fo = some k → k ≤ 8 ∧ a < t.1 2 ∧ b < t.1 2) : zFun l D C yX4_ownIn cX4_ownIn 8 (some .int) (zR 5) [.ref 0, .int (nI p), .int (nrI ro), .int (nI m), .int (nrI fo), .int (nI a), .int (nI b)] (mdW 0 M) (fun w rv => (∃ M', w = mdW 0 M' ∧ sm0 M M') ∧ rv = some (.int (rGn t (ruO p (ruB t a b fo) ro) m p))) := by
  have hnb : t.1 3 ≤ 8 := hT.1.2.2.2.2.1
  have hrb : t.1 2 ≤ 10 := hT.1.2.2.2.1
  have hQ0 := okQ_opn h hT
  have a2 : (opn (t.1 3) M).1 4 = nI (t.1 3) := hQ0.1.1.2.2.1
  refine zFun_of (by decide) oX4_ownIn tbX4 (Nat.le_of_ble_eq_true rfl) (fun Z o => ?_)
  have fin : ∀ M1, keep M M1 → okQ M1 t nob (t.2.2.2.1 0) (t.1 5) (ruB t a b fo) (tT t) (t.2.2.1 1) → ∀ x7, Z 48 (mdW 0 M1) [some (.ref 0), some (.int (nI p)), some (.int (nrI ro)), some (.int (nI m)), some (.int (nrI fo)), some (.int (nI a)), some (.int (nI b)), x7] [] := by
    intro M1 hk hQ x7
    have go : ∀ M2, keep M M2 → okQ M2 t nob (t.2.2.2.1 0) (t.1 5) (ruO p (ruB t a b fo) ro) (tT t) (t.2.2.1 1) → Z 68 (mdW 0 M2) [some (.ref 0), some (.int (nI p)), some (.int (nrI ro)), some (.int (nI m)), some (.int (nrI fo)), some (.int (nI a)), some (.int (nI b)), x7] [] := by
      intro M2 hk2 hQ2
      refine o.run 100 [] ?_
      show Z _ _ _ _
      refine o.cV vX4_222 (m_run (m := m) hQ2 hT hc (by omega) hm) (fun w' rv _ hpo => ?_)
      obtain ⟨⟨M', r20, rfl, hr⟩, rfl⟩ := hpo
      refine o.run 100 [] ⟨p, rfl, by omega, ⟨_, rfl, rfl⟩, rfl, ⟨M', rfl, (keep_tr hk2 (keep_sm hr.1)).1⟩, ?_⟩
      rw [hr.2.2.1 p hp]
    have hrp := hQ.2.2.1 p hp
    cases ro with
    | none =>
      refine o.run 100 [61, 68] ⟨fun _ => ?_, fun q => absurd (by decide) q⟩
      refine o.run 100 [68] ⟨p, rfl, by omega, p, rfl, by omega, ?_⟩
      refine go (mR M1 17 (upd (M1.2 17) p (M1.2 17 p))) (keep_tr hk keep_17) (okQ_ru hQ (fun q hq => ?_))
      unfold upd
      split
      · rename_i e; subst e; exact hQ.2.2.1 q hq
      · exact hQ.2.2.1 q hq
    | some r =>
      have hrr := hr r rfl
      refine o.run 100 [61, 68] ⟨fun q => absurd q (nI_pos (by omega)), fun _ => ⟨p, rfl, by omega, ?_⟩⟩
      refine go (mR M1 17 (upd (M1.2 17) p (nI r))) (keep_tr hk keep_17) (okQ_ru hQ (fun q hq => ?_))
      show upd (M1.2 17) p (nI r) q = nI (rOne p r (ruB t a b fo) q) ∧ rOne p r (ruB t a b fo) q < t.1 2
      unfold upd rOne
      by_cases e : q = p
      · rw [if_pos e, if_pos e]; exact ⟨rfl, hrr⟩
      · rw [if_neg e, if_neg e]; exact hQ.2.2.1 q hq
  refine o.run 100 [] ?_
  show Z _ _ _ _
  refine o.cV vX4_216 (m_open h hT) (fun w' rv _ hpo => ?_)
  obtain ⟨rfl, rfl⟩ := hpo
  cases fo with
  | none =>
    refine o.run 100 [7] ?_
    have := fin (opn (t.1 3) M) keep_opn hQ0 (some (.int (nI 0)))
    exact o.run 100 [48] ⟨fun q => this, fun q => ⟨fun _ => this, fun q => absurd (by decide) q⟩⟩
  | some k =>
    obtain ⟨hk, ha, hb⟩ := hf k rfl
    have loop : ∀ j q, q + j = t.1 3 → Z 7 (mdW 0 (mR (opn (t.1 3) M) 17 (mix q (fun q => if q < k then nI a else nI b) ((opn (t.1 3) M).2 17)))) [some (.ref 0), some (.int (nI p)), some (.int (nrI ro)), some (.int (nI m)), some (.int (nI k)), some (.int (nI a)), some (.int (nI b)), some (.int (nI q))] [] := by
      intro j
      induction j with
      | zero =>
        intro q hq
        obtain rfl : q = t.1 3 := by omega
        refine o.run 100 [48] ⟨fun _ => ?_, fun q => absurd (by show (opn (t.1 3) M).1 4 ≤ _; rw [a2]; exact nI_le (Nat.le_refl _) (by omega)) q⟩
        refine fin _ (keep_tr keep_opn keep_17) (okQ_ru hQ0 (fun q hq => ?_)) _
        rw [mix_lt hq]
        show _ = nI (rPart (t.1 3) a b k (ruT t) q) ∧ rPart (t.1 3) a b k (ruT t) q < t.1 2
        unfold rPart
        rw [if_pos hq]
        by_cases hpk : q < k
        · rw [if_pos hpk, if_pos hpk]; exact ⟨rfl, ha⟩
        · rw [if_neg hpk, if_neg hpk]; exact ⟨rfl, hb⟩
      | succ j ih =>
        intro q hq
        have hnx := ih (q + 1) (by omega)
        rw [← mix_upd, ← nI_1 q] at hnx
        refine o.run 100 [7] ⟨fun g => absurd g (by show ¬ (opn (t.1 3) M).1 4 ≤ _; rw [a2]; exact nI_ge (by omega) (by omega)), fun _ => ⟨fun g => absurd g (nI_pos (by omega)), fun _ => ⟨fun g => ⟨q, rfl, by omega, ?_⟩, fun g => ⟨q, rfl, by omega, ?_⟩⟩⟩⟩
        · have g : nI k ≤ nI q := g
          rw [nI_leI (by omega) (by omega)] at g
          rw [if_neg (by omega)] at hnx
          exact hnx
        · have g : ¬ nI k ≤ nI q := g
          rw [nI_leI (by omega) (by omega)] at g
          rw [if_pos (by omega)] at hnx
          exact hnx
    have h0 := loop (t.1 3) 0 (by omega)
    rw [mix_0] at h0
    exact o.run 100 [7] h0
set_option maxRecDepth 10000 in
theorem m_gainOf {p m a b r : Nat} {fo : Option Nat} (h : repT M t) (hT : okT t c) (hc : c ≤ 100) (hm : m ≤ 60) (hp : p < t.1 3) (hr : r < t.1 2) (hf : ∀ k, fo = some k → k ≤ 8 ∧ a < t.1 2 ∧ b < t.1 2) : zFun l D C yX4_gainOf cX4_gainOf 8 (some .int) (zR 6) [.ref 0, .int (nI p), .int (nI r), .int (nI m), .int (nrI fo), .int (nI a), .int (nI b)] (mdW 0 M) (fun w rv => (∃ M', w = mdW 0 M' ∧ sm0 M M') ∧ rv = some (.int (rGn t (rOne p r (ruB t a b fo)) m p - rGn t (ruB t a b fo) m p))) := by
  refine zFun_of (by decide) oX4_gainOf tbX4 (Nat.le_of_ble_eq_true rfl) (fun Z o => ?_)
  refine o.run 100 [] ?_
  show Z _ _ _ _
  refine o.cV vX4_225 (m_ownIn (p := p) (m := m) (a := a) (b := b) (ro := some r) (fo := fo) h hT hc hm hp (fun r' e => by cases e; exact hr) hf) (fun w' rv _ hpo => ?_)
  obtain ⟨⟨M', rfl, hs⟩, rfl⟩ := hpo
  refine o.run 100 [] ?_
  show Z _ _ _ _
  refine o.cV (rest := [.int _]) vX4_225 (m_ownIn (p := p) (m := m) (a := a) (b := b) (ro := none) (fo := fo) (repT_sm h hs) hT hc hm hp (fun r' e => by cases e) hf) (fun w' rv _ hpo => ?_)
  obtain ⟨⟨M'', rfl, hs2⟩, rfl⟩ := hpo
  exact o.run 100 [] ⟨⟨_, rfl, rfl⟩, rfl, ⟨M'', rfl, sm0_tr hs hs2⟩, rfl⟩
-- what a run brings is small
theorem tot_sm {n : Nat} {b : Nat → Int32} {vv : Nat → Nat → Nat} {tw : Nat → Nat} (hb : ∀ j, ∃ k, k < 100 ∧ b j = nI k) : ∀ m p, ∃ g, g ≤ 99 * m ∧ tot n b vv tw (fun _ => nI 0) m p = nI g
  | 0, p => ⟨0, Nat.le_refl _, rfl⟩
  | m + 1, p => by
    obtain ⟨g, hg, e⟩ := tot_sm (n := n) (vv := vv) (tw := tw) hb m p
    obtain ⟨k, hk, e2⟩ := hb (vv m p * 4 + tw m)
    show ∃ g, g ≤ 99 * (m + 1) ∧ mix n (fun p => tot n b vv tw (fun _ => nI 0) m p + b (vv m p * 4 + tw m)) (tot n b vv tw (fun _ => nI 0) m) p = nI g
    unfold mix
    split
    · refine ⟨g + k, by omega, ?_⟩
      show tot n b vv tw (fun _ => nI 0) m p + b (vv m p * 4 + tw m) = _
      rw [e, e2, nI_add]
    · exact ⟨g, by omega, e⟩
theorem neg_np {k : Nat} (hk : k < 10000) : ¬ (0 : Int32) < -(nI k) := by
  rw [Int32.lt_iff_toInt_lt, Int32.toInt_neg, nI_toInt (by omega)]
  have h0 : (0 : Int32).toInt = 0 := by decide
  rw [h0]
  unfold Int.bmod
  simp only
  split <;> omega
theorem sub_pos {x y : Nat} (hx : x < 10000) (hy : y < 10000) : (0 < nI x - nI y) ↔ nI y < nI x := by
  rw [nI_ltI (by omega) (by omega)]
  rcases Nat.lt_or_ge y x with h | h
  · rw [pk_sub (by omega)]
    exact ⟨fun _ => h, fun _ => by rw [← nI_0]; exact nI_lt (by omega) (by omega)⟩
  · have e : nI x - nI y = -(nI (y - x)) := by rw [← pk_sub h, Int32.neg_sub]
    rw [e]
    exact ⟨fun q => absurd q (neg_np (by omega)), fun q => by omega⟩
theorem gain_pos {m p : Nat} {r1 r2 : Nat → Nat} (hT : okT t c) (hm : m ≤ 60) : (0 < rGn t r1 m p - rGn t r2 m p) ↔ rGn t r2 m p < rGn t r1 m p := by
  obtain ⟨g1, h1, e1⟩ := tot_sm (n := t.1 3) (vv := rV t nob (t.2.2.2.1 0) (t.1 5) r1 (tT t)) (tw := tT t) hT.2.1 m p
  obtain ⟨g2, h2, e2⟩ := tot_sm (n := t.1 3) (vv := rV t nob (t.2.2.2.1 0) (t.1 5) r2 (tT t)) (tw := tT t) hT.2.1 m p
  have e1 : rGn t r1 m p = nI g1 := e1
  have e2 : rGn t r2 m p = nI g2 := e2
  rw [e1, e2]
  exact sub_pos (by omega) (by omega)
set_option maxRecDepth 10000 in
theorem m_restsInParts {k a b m : Nat} (h : repT M t) (hT : okT t c) (hc : c ≤ 100) (hm : m ≤ 60) (hk : k ≤ 8) (ha : a < t.1 2) (hb : b < t.1 2) : zFun l D C yX4_restsInParts cX4_restsInParts 6 (some .boolean) (zR 7) [.ref 0, .int (nI k), .int (nI a), .int (nI b), .int (nI m)] (mdW 0 M) (fun w rv => (∃ M', w = mdW 0 M' ∧ sm0 M M') ∧ rv = some (.int (zB (allN (nbT t a b m k) (t.1 3))))) := by
  have hnb : t.1 3 ≤ 8 := hT.1.2.2.2.2.1
  refine zFun_of (by decide) oX4_restsInParts tbX4 (Nat.le_of_ble_eq_true rfl) (fun Z o => ?_)
  have loop : ∀ j p, p + j = t.1 3 → allN (nbT t a b m k) p = true → ∀ M1, sm0 M M1 → Z 3 (mdW 0 M1) [some (.ref 0), some (.int (nI k)), some (.int (nI a)), some (.int (nI b)), some (.int (nI m)), some (.int (nI p))] [] := by
    intro j
    induction j with
    | zero =>
      intro p hp hal M1 hs
      obtain rfl : p = t.1 3 := by omega
      have a2 : M1.1 4 = nI (t.1 3) := (repT_sm h hs).1.2.2.1
      refine o.run 100 [] ⟨fun _ => ⟨zB_rt true, rfl, ⟨M1, rfl, hs⟩, ?_⟩, fun q => absurd (by show M1.1 4 ≤ _; rw [a2]; exact nI_le (Nat.le_refl _) (by omega)) q⟩
      rw [hal]; rfl
    | succ j ih =>
      intro p hp hal M1 hs
      have a2 : M1.1 4 = nI (t.1 3) := (repT_sm h hs).1.2.2.1
      have hf : ∀ k', some k = some k' → k' ≤ 8 ∧ a < t.1 2 ∧ b < t.1 2 := fun k' e => by cases e; exact ⟨hk, ha, hb⟩
      have go : ∀ r, r = (if p < k then b else a) → Z 26 (mdW 0 M1) [some (.ref 0), some (.int (nI k)), some (.int (nI a)), some (.int (nI b)), some (.int (nI m)), some (.int (nI p))] [.int (nI r), .int (nI p), .ref 0] := fun r hr => by
        have hrl : r < t.1 2 := by rw [hr]; split <;> assumption
        refine o.run 100 [] ?_
        show Z _ _ _ _
        refine o.cV vX4_230 (m_gainOf (p := p) (m := m) (a := a) (b := b) (r := r) (fo := some k) (repT_sm h hs) hT hc hm (by omega) hrl hf) (fun w' rv _ hpo => ?_)
        obtain ⟨⟨M2, rfl, hs2⟩, rfl⟩ := hpo
        have hg := gain_pos (m := m) (p := p) (r1 := rOne p r (rPart (t.1 3) a b k (ruT t))) (r2 := rPart (t.1 3) a b k (ruT t)) hT hm
        refine o.run 100 [3] ⟨fun q => ?_, fun q => ?_⟩
        · have q : rGn t (rOne p r (rPart (t.1 3) a b k (ruT t))) m p - rGn t (rPart (t.1 3) a b k (ruT t)) m p ≤ 0 := q
          have hnb : nbT t a b m k p = true := decide_eq_true (fun z => Int32.not_lt.mpr q (hg.mpr (by rw [hr]; exact z)))
          have := ih (p + 1) (by omega) (by rw [allN, hal, hnb]; rfl) M2 (sm0_tr hs hs2)
          rw [← nI_1 p] at this
          exact this
        · have q : ¬ rGn t (rOne p r (rPart (t.1 3) a b k (ruT t))) m p - rGn t (rPart (t.1 3) a b k (ruT t)) m p ≤ 0 := q
          have hnb : nbT t a b m k p = false := decide_eq_false (fun z => z (by rw [← hr]; exact hg.mp (Int32.not_le.mp q)))
          refine ⟨zB_rt false, rfl, ⟨M2, rfl, sm0_tr hs hs2⟩, ?_⟩
          rw [allN_false (p := p) (by omega) hnb]; rfl
      refine o.run 100 [26] ⟨fun q => absurd q (by show ¬ M1.1 4 ≤ _; rw [a2]; exact nI_ge (by omega) (by omega)), fun _ => ⟨fun q => go a ?_, fun q => go b ?_⟩⟩
      · have q : nI k ≤ nI p := q
        rw [nI_leI (by omega) (by omega)] at q
        rw [if_neg (by omega)]
      · have q : ¬ nI k ≤ nI p := q
        rw [nI_leI (by omega) (by omega)] at q
        rw [if_pos (by omega)]
  exact o.run 100 [3] (loop (t.1 3) 0 (by omega) rfl M (sm0_rf M))
end MO
