/-! the reference's reader, 2: one step, and closing -/
section MR2
variable {l : Launch} {D : va_G} {C : zC} {M : zM} {f : Nat → Int32} {len p kn op base : Nat}
set_option maxRecDepth 10000 in
theorem m_ro_leaf (hl : len ≤ 24) (hp : p ≤ len) (e12 : M.2 12 = f) (e20 : M.1 20 = nI p) (e21 : M.1 21 = nI len) (hb : base + kn < 240) (e23 : M.1 23 = nI kn) (hc : hrC f len p = nI 115 ∨ hrC f len p = nI 98 ∨ hrC f len p = nI 109 ∨ hrC f len p = nI 110) : zFun l D C yX4_readOne cX4_readOne 4 (some .int) (zR 2) [.ref 0, .int (nI base)] (mdW 0 M) (fun w rv => w = mdW 0 (nkM (mN M 20 (nI (p + 1))) (base + kn) kn (hrC f len p) (nI 0)) ∧ rv = some (.int (nI (base + kn)))) := by
  refine zFun_of (by decide) oX4_readOne tbX4 (Nat.le_of_ble_eq_true rfl) (fun Z o => ?_)
  refine o.run 100 [] ?_
  show Z 1 (mdW 0 M) _ [.ref 0]
  refine o.cV vX4_123 (m_here hl (by omega) e12 e20 e21) (fun w' rv _ hpo => ?_)
  obtain ⟨rfl, rfl⟩ := hpo
  have fin : Z 29 (mdW 0 M) [some (.ref 0), some (.int (nI base)), some (.int (hrC f len p)), none] [] := by
    refine o.run 100 [] ?_
    show Z 43 (mdW 0 (mN M 20 (M.1 20 + nI 1))) [some (.ref 0), some (.int (nI base)), some (.int (hrC f len p)), none] [.int (nI 0), .int (hrC f len p), .int (nI base), .ref 0]
    rw [e20, nI_add]
    refine o.cV vX4_136 (m_newKnot (M := mN M 20 (nI (p + 1))) hb e23) (fun w' rv _ hpo => ?_)
    obtain ⟨rfl, rfl⟩ := hpo
    exact o.run 100 [] ⟨⟨_, rfl, rfl⟩, rfl, rfl, rfl⟩
  refine o.run 100 [29, 47] ⟨fun _ => fin, fun q1 => ⟨fun _ => fin, fun q2 => ⟨fun _ => fin, fun q3 => ⟨fun q4 => ?_, fun _ => fin⟩⟩⟩⟩
  exact absurd hc (fun h => h.elim q1 (fun h => h.elim q2 (fun h => h.elim q3 q4)))
theorem ro_ne {x : Int32} {k : Nat} (h : x = nI k) (h1 : k ≠ 115 ∧ k ≠ 98 ∧ k ≠ 109 ∧ k ≠ 110) (hk : k < 1000) : ¬ x = nI 115 ∧ ¬ x = nI 98 ∧ ¬ x = nI 109 ∧ ¬ x = nI 110 := by
  subst h
  exact ⟨nI_ne (by omega) (by omega) h1.1, nI_ne (by omega) (by omega) h1.2.1, nI_ne (by omega) (by omega) h1.2.2.1, nI_ne (by omega) (by omega) h1.2.2.2⟩
/-- behind the number at p + 1 -/
def rnM (M : zM) (f : Nat → Int32) (len p : Nat) : zM := mN (mN (mN M 20 (nI (p + 1))) 22 (zB (decide ((rdN f len (p + 1)).2 = 0)))) 20 (nI (rdN f len (p + 1)).1)
set_option maxRecDepth 10000 in
theorem m_ro_try (hl : len ≤ 24) (hp : p ≤ len) (e12 : M.2 12 = f) (e20 : M.1 20 = nI p) (e21 : M.1 21 = nI len) (e22 : M.1 22 = nI 0) (hb : base + kn < 240) (e23 : M.1 23 = nI kn) (hc : hrC f len p = nI 116) : zFun l D C yX4_readOne cX4_readOne 4 (some .int) (zR 2) [.ref 0, .int (nI base)] (mdW 0 M) (fun w rv => if (rdN f len (p + 1)).2 = 0 then w = mdW 0 (rnM M f len p) ∧ rv = some (.int (nI 0)) else w = mdW 0 (nkM (rnM M f len p) (base + kn) kn (nI 116) (nI (rdN f len (p + 1)).2)) ∧ rv = some (.int (nI (base + kn)))) := by
  refine zFun_of (by decide) oX4_readOne tbX4 (Nat.le_of_ble_eq_true rfl) (fun Z o => ?_)
  refine o.run 100 [] ?_
  show Z 1 (mdW 0 M) _ [.ref 0]
  refine o.cV vX4_123 (m_here hl (by omega) e12 e20 e21) (fun w' rv _ hpo => ?_)
  obtain ⟨rfl, rfl⟩ := hpo
  obtain ⟨n1, n2, n3, n4⟩ := ro_ne hc (by omega) (by omega)
  refine o.run 100 [29, 47] ⟨fun q => absurd q n1, fun _ => ⟨fun q => absurd q n2, fun _ => ⟨fun q => absurd q n3, fun _ => ⟨fun _ => ?_, fun q => absurd q n4⟩⟩⟩⟩
  refine o.run 100 [87] ⟨fun q => absurd hc q, fun _ => ?_⟩
  show Z 64 (mdW 0 (mN M 20 (M.1 20 + nI 1))) [some (.ref 0), some (.int (nI base)), some (.int (hrC f len p)), none] [.ref 0]
  rw [e20, nI_add]
  refine o.cV vX4_140 (m_readNumber (M := mN M 20 (nI (p + 1))) (p := p + 1) hl (by omega) e12 rfl e21 e22) (fun w' rv _ hpo => ?_)
  obtain ⟨rfl, rfl⟩ := hpo
  show Z 67 (mdW 0 (rnM M f len p)) _ _
  by_cases h0 : (rdN f len (p + 1)).2 = 0
  · simp only [if_pos h0] at o
    refine o.run 100 [79] ⟨fun q => absurd (show zB (decide ((rdN f len (p + 1)).2 = 0)) = 0 from q) (by rw [decide_eq_true h0]; decide), fun _ => ⟨⟨_, rfl, rfl⟩, rfl, rfl, rfl⟩⟩
  · simp only [if_neg h0] at o
    refine o.run 100 [79] ⟨fun _ => ?_, fun q => absurd (show zB (decide ((rdN f len (p + 1)).2 = 0)) = 0 by rw [decide_eq_false h0]; decide) q⟩
    refine o.run 100 [] ?_
    show Z 83 (mdW 0 (rnM M f len p)) _ [.int (nI (rdN f len (p + 1)).2), .int (hrC f len p), .int (nI base), .ref 0]
    rw [hc]
    refine o.cV vX4_136 (m_newKnot (M := rnM M f len p) hb e23) (fun w' rv _ hpo => ?_)
    obtain ⟨rfl, rfl⟩ := hpo
    exact o.run 100 [] ⟨⟨_, rfl, rfl⟩, rfl, rfl, rfl⟩
set_option maxRecDepth 10000 in
theorem m_ro_bad (hl : len ≤ 24) (hp : p ≤ len) (e12 : M.2 12 = f) (e20 : M.1 20 = nI p) (e21 : M.1 21 = nI len) (e26 : M.1 26 = nI op) (hop : op ≤ 4) (h1 : ¬ (hrC f len p = nI 115 ∨ hrC f len p = nI 98 ∨ hrC f len p = nI 109 ∨ hrC f len p = nI 110)) (h2 : ¬ hrC f len p = nI 116) (h3 : hrC f len p = nI 40 → op = 4) : zFun l D C yX4_readOne cX4_readOne 4 (some .int) (zR 2) [.ref 0, .int (nI base)] (mdW 0 M) (fun w rv => w = mdW 0 (mN M 22 (nI 1)) ∧ rv = some (.int (zi (-1)))) := by
  refine zFun_of (by decide) oX4_readOne tbX4 (Nat.le_of_ble_eq_true rfl) (fun Z o => ?_)
  refine o.run 100 [] ?_
  show Z 1 (mdW 0 M) _ [.ref 0]
  refine o.cV vX4_123 (m_here hl (by omega) e12 e20 e21) (fun w' rv _ hpo => ?_)
  obtain ⟨rfl, rfl⟩ := hpo
  refine o.run 100 [29, 47] ⟨fun q => absurd (Or.inl q) h1, fun _ => ⟨fun q => absurd (Or.inr (Or.inl q)) h1, fun _ => ⟨fun q => absurd (Or.inr (Or.inr (Or.inl q))) h1, fun _ => ⟨fun _ => ?_, fun q => absurd (Or.inr (Or.inr (Or.inr q))) h1⟩⟩⟩⟩
  refine o.run 100 [87] ⟨fun _ => ?_, fun q => absurd q h2⟩
  have fin : Z 102 (mdW 0 M) [some (.ref 0), some (.int (nI base)), some (.int (hrC f len p)), none] [.ref 0] :=
    o.run 100 [] ⟨Or.inr (by decide), fun _ => ⟨⟨_, rfl, rfl⟩, rfl, rfl, rfl⟩, fun q => absurd (show nI 1 = 0 from q) (by decide)⟩
  refine o.run 100 [102] ⟨fun _ => fin, fun q => ⟨fun q2 => absurd (show M.1 26 = nI 4 by rw [e26, h3 q]) q2, fun _ => fin⟩⟩
/-- a bracket opened at p -/
def opM (M : zM) (f : Nat → Int32) (len p kn op base : Nat) : zM := mN (mR (mR (nkM (tkM (rnM (mN M 22 (nI 0)) f len p) (rdN f len (p + 1)).1 true) (base + kn) kn (nI 40) (nI (rdN f len (p + 1)).2)) 14 (upd (M.2 14) op (nI (base + kn)))) 15 (upd (M.2 15) op (nI 0))) 26 (nI (op + 1))
def opB (M : zM) (f : Nat → Int32) (len p op : Nat) : zM := mN (mR (mR (tkM (rnM (mN M 22 (nI 0)) f len p) (rdN f len (p + 1)).1 false) 14 (upd (M.2 14) op (nI 0))) 15 (upd (M.2 15) op (nI 0))) 26 (nI (op + 1))
set_option maxRecDepth 10000 in
theorem m_ro_open (hl : len ≤ 24) (hp : p ≤ len) (e12 : M.2 12 = f) (e20 : M.1 20 = nI p) (e21 : M.1 21 = nI len) (hb : base + kn < 240) (e23 : M.1 23 = nI kn) (e26 : M.1 26 = nI op) (hop : op < 4) (hc : hrC f len p = nI 40) : zFun l D C yX4_readOne cX4_readOne 4 (some .int) (zR 2) [.ref 0, .int (nI base)] (mdW 0 M) (fun w rv => w = mdW 0 (if ¬ (rdN f len (p + 1)).2 = 0 ∧ hrC f len (rdN f len (p + 1)).1 = nI 63 then opM M f len p kn op base else opB M f len p op) ∧ rv = some (.int (zi (-1)))) := by
  have hlt : p < len := hr_lt (by omega) hc
  have hr1 := (rdN_le (f := f) (len := len) (p := p + 1) hlt).1
  refine zFun_of (by decide) oX4_readOne tbX4 (Nat.le_of_ble_eq_true rfl) (fun Z o => ?_)
  refine o.run 100 [] ?_
  show Z 1 (mdW 0 M) _ [.ref 0]
  refine o.cV vX4_123 (m_here hl (by omega) e12 e20 e21) (fun w' rv _ hpo => ?_)
  obtain ⟨rfl, rfl⟩ := hpo
  obtain ⟨n1, n2, n3, n4⟩ := ro_ne hc (by omega) (by omega)
  refine o.run 100 [29, 47] ⟨fun q => absurd q n1, fun _ => ⟨fun q => absurd q n2, fun _ => ⟨fun q => absurd q n3, fun _ => ⟨fun _ => ?_, fun q => absurd q n4⟩⟩⟩⟩
  refine o.run 100 [87] ⟨fun _ => ?_, fun q => absurd (hc.symm.trans q) (by decide : ¬ nI 40 = nI 116)⟩
  refine o.run 100 [102, 106] ⟨fun q => absurd hc q, fun _ => ⟨fun _ => ?_, fun q => absurd (show M.1 26 = nI 4 from q) (by rw [e26]; exact nI_ne (by omega) (by omega) (by omega))⟩⟩
  refine o.run 100 [] ⟨Or.inl (by decide), fun q => absurd (show nI 0 = 0 from nI_0) q, fun _ => ?_⟩
  show Z 128 (mdW 0 (mN (mN M 22 (nI 0)) 20 (M.1 20 + nI 1))) [some (.ref 0), some (.int (nI base)), some (.int (hrC f len p)), none] [.ref 0]
  rw [e20, nI_add]
  refine o.cV vX4_140 (m_readNumber (M := mN (mN M 22 (nI 0)) 20 (nI (p + 1))) (p := p + 1) hl (by omega) e12 rfl e21 rfl) (fun w' rv _ hpo => ?_)
  obtain ⟨rfl, rfl⟩ := hpo
  show Z 131 (mdW 0 (rnM (mN M 22 (nI 0)) f len p)) _ _
  refine o.run 100 [] ?_
  show Z 135 (mdW 0 (rnM (mN M 22 (nI 0)) f len p)) [some (.ref 0), some (.int (nI base)), some (.int (hrC f len p)), some (.int (nI (rdN f len (p + 1)).2))] [.int (nI 63), .ref 0]
  refine o.cV vX4_146 (m_take (M := rnM (mN M 22 (nI 0)) f len p) (p := (rdN f len (p + 1)).1) (k := 63) (bb := decide ((rdN f len (p + 1)).2 = 0)) hl (by omega) e12 rfl e21 rfl) (fun w' rv _ hpo => ?_)
  obtain ⟨rfl, rfl⟩ := hpo
  by_cases hg : ¬ (rdN f len (p + 1)).2 = 0 ∧ hrC f len (rdN f len (p + 1)).1 = nI 63
  · have eb : (!decide ((rdN f len (p + 1)).2 = 0) && decide (hrC f len (rdN f len (p + 1)).1 = nI 63)) = true := by rw [decide_eq_false hg.1, decide_eq_true hg.2]; rfl
    rw [eb]
    simp only [if_pos hg] at o
    refine o.run 100 [157] ⟨fun _ => ?_, fun q => absurd (show zB (!true) = 0 by decide) q⟩
    refine o.run 100 [] ?_
    show Z 161 (mdW 0 (tkM (rnM (mN M 22 (nI 0)) f len p) (rdN f len (p + 1)).1 true)) _ [.int (nI (rdN f len (p + 1)).2), .int (hrC f len p), .int (nI base), .ref 0, .int (M.1 26), .ref 14]
    rw [hc, e26]
    refine o.cV (rest := [.int (nI op), .ref 14]) vX4_136 (m_newKnot (M := tkM (rnM (mN M 22 (nI 0)) f len p) (rdN f len (p + 1)).1 true) hb e23) (fun w' rv _ hpo => ?_)
    obtain ⟨rfl, rfl⟩ := hpo
    refine o.run 100 [] ⟨op, rfl, by omega, op, e26, by omega, ⟨_, rfl, rfl⟩, rfl, ?_, rfl⟩
    show mdW 0 (mN (mR (mR (nkM (tkM (rnM (mN M 22 (nI 0)) f len p) (rdN f len (p + 1)).1 true) (base + kn) kn (nI 40) (nI (rdN f len (p + 1)).2)) 14 (upd (M.2 14) op (nI (base + kn)))) 15 (upd (M.2 15) op (vp_nar .boolean (zB false)))) 26 (M.1 26 + nI 1)) = _
    rw [e26, nI_add, nar_b]; rfl
  · have eb : (!decide ((rdN f len (p + 1)).2 = 0) && decide (hrC f len (rdN f len (p + 1)).1 = nI 63)) = false := by
      rw [Bool.and_eq_false_iff]
      by_cases h0 : (rdN f len (p + 1)).2 = 0
      · left; rw [decide_eq_true h0]; rfl
      · right; exact decide_eq_false (fun z => hg ⟨h0, z⟩)
    rw [eb]
    simp only [if_neg hg] at o
    refine o.run 100 [157] ⟨fun q => absurd (show zB (!false) = 0 from q) (by decide), fun _ => ⟨op, e26, by omega, op, e26, by omega, ⟨_, rfl, rfl⟩, rfl, ?_, rfl⟩⟩
    show mdW 0 (mN (mR (mR (tkM (rnM (mN M 22 (nI 0)) f len p) (rdN f len (p + 1)).1 false) 14 (upd (M.2 14) op (nI 0))) 15 (upd (M.2 15) op (vp_nar .boolean (zB false)))) 26 (M.1 26 + nI 1)) = _
    rw [e26, nI_add, nar_b]; rfl
-- closing: the brackets that are open, the last one first, each with its knot and whether its second rule is read
def stk (M : zM) : List (Nat × Bool) → Prop
  | [] => True
  | (o, b) :: r => M.2 14 r.length = nI o ∧ M.2 15 r.length = zB b ∧ o < 240 ∧ stk M r
theorem stk_c {M M' : zM} : ∀ {st : List (Nat × Bool)}, (∀ j, j < st.length → M'.2 14 j = M.2 14 j ∧ M'.2 15 j = M.2 15 j) → stk M st → stk M' st
  | [], _, _ => trivial
  | (o, b) :: r, h, hs => ⟨by rw [(h r.length (Nat.lt_succ_self _)).1]; exact hs.1, by rw [(h r.length (Nat.lt_succ_self _)).2]; exact hs.2.1, hs.2.2.1, stk_c (fun j hj => h j (Nat.lt_succ_of_lt hj)) hs.2.2.2⟩
def clo (f : Nat → Int32) (len : Nat) : List (Nat × Bool) → zM → Nat → Nat → zM × Int32
  | [], M, _, i => (M, nI i)
  | (o, true) :: r, M, p, i => if hrC f len p = nI 41 then clo f len r (mN (tkM (mR M 11 (upd (M.2 11) o (nI i))) p true) 26 (nI r.length)) (p + 1) o else (mN (tkM (mR M 11 (upd (M.2 11) o (nI i))) p false) 26 (nI r.length), nI o)
  | (o, false) :: r, M, p, i => (mR (tkM (mR M 10 (upd (M.2 10) o (nI i))) p (decide (hrC f len p = nI 58))) 15 (upd (M.2 15) r.length (nI 1)), zi (-1))
set_option maxRecDepth 10000 in
theorem m_close {st : List (Nat × Bool)} {i : Nat} (hl : len ≤ 24) (hp : p ≤ len) (e12 : M.2 12 = f) (e20 : M.1 20 = nI p) (e21 : M.1 21 = nI len) (e22 : M.1 22 = nI 0) (e26 : M.1 26 = nI st.length) (hst : st.length ≤ 4) (hs : stk M st) : zFun l D C yX4_close cX4_close 3 (some .int) (zR 2) [.ref 0, .int (nI i)] (mdW 0 M) (fun w rv => w = mdW 0 (clo f len st M p i).1 ∧ rv = some (.int (clo f len st M p i).2)) := by
  refine zFun_of (by decide) oX4_close tbX4 (Nat.le_of_ble_eq_true rfl) (fun Z o => ?_)
  have loop : ∀ (st : List (Nat × Bool)) (M : zM) (p i0 i : Nat) (X : zM × Int32), X = clo f len st M p i → (zOps l D C RX4 kX4_close (zfl FX4) (zkI IX4) (zkJ JX4) 2 (fun ws rv => zRt (some .int) rv ∧ ws.length = 22 ∧ ws = mdW 0 X.1 ∧ rv = some (.int X.2)) Z) → p ≤ len → M.2 12 = f → M.1 20 = nI p → M.1 21 = nI len → M.1 22 = nI 0 → M.1 26 = nI st.length → st.length ≤ 4 → stk M st → Z 2 (mdW 0 M) [some (.ref 0), some (.int (nI i0)), some (.int (nI i))] [] := by
    intro st
    induction st with
    | nil =>
      intro M p i0 i X hX o hp e12 e20 e21 e22 e26 hst hs
      subst hX
      have h0 : M.1 26 ≤ 0 := by rw [e26]; decide
      refine o.run 100 [76] ⟨fun _ => ?_, fun q => absurd h0 q⟩
      exact o.run 100 [] ⟨fun _ => ⟨⟨_, rfl, rfl⟩, rfl, rfl, rfl⟩, fun q => absurd h0 q⟩
    | cons x r ih =>
      intro M p i0 i X hX o hp e12 e20 e21 e22 e26 hst hs
      obtain ⟨ob, b⟩ := x
      obtain ⟨s1, s2, s3, s4⟩ := hs
      have hrl : r.length < 4 := hst
      have e26 : M.1 26 = nI (r.length + 1) := e26
      have hn0 : ¬ M.1 26 ≤ 0 := by rw [e26]; exact nI_nle (by omega) (by omega)
      have es : M.1 26 - nI 1 = nI r.length := by rw [e26, pk_sub (by omega), Nat.add_sub_cancel]
      cases b with
      | true =>
        have s2' : ¬ M.2 15 r.length = 0 := by rw [s2]; decide
        refine o.run 100 [76] ⟨fun q => absurd q hn0, fun _ => ⟨r.length, es, by omega, fun q => absurd q s2', fun _ => ⟨fun q => absurd (show M.1 22 = 0 by rw [e22]; exact nI_0) q, fun _ => ⟨r.length, es, by omega, ob, s1, s3, ?_⟩⟩⟩⟩
        show Z 50 (mdW 0 (mR M 11 (upd (M.2 11) ob (nI i)))) [some (.ref 0), some (.int (nI i0)), some (.int (nI i))] [.int (nI 41), .ref 0]
        refine o.cV vX4_146 (m_take (M := mR M 11 (upd (M.2 11) ob (nI i))) (p := p) (k := 41) (bb := false) hl (by omega) e12 e20 e21 e22) (fun w' rv _ hpo => ?_)
        obtain ⟨rfl, rfl⟩ := hpo
        by_cases hc : hrC f len p = nI 41
        · have hlt : p < len := hr_lt (by omega) hc
          have eb : (!false && decide (hrC f len p = nI 41)) = true := by rw [decide_eq_true hc]; rfl
          rw [eb]
          have hX2 : X = clo f len r (mN (tkM (mR M 11 (upd (M.2 11) ob (nI i))) p true) 26 (nI r.length)) (p + 1) ob := by rw [hX, clo, if_pos hc]
          have := ih (mN (tkM (mR M 11 (upd (M.2 11) ob (nI i))) p true) 26 (nI r.length)) (p + 1) i0 ob X hX2 o hlt e12 rfl e21 rfl rfl (by omega) (stk_c (M := M) (fun j _ => ⟨rfl, rfl⟩) s4)
          refine o.run 100 [2] ⟨r.length, es, by omega, ?_⟩
          show Z 2 (mdW 0 (mN (tkM (mR M 11 (upd (M.2 11) ob (nI i))) p true) 26 (M.1 26 - nI 1))) [some (.ref 0), some (.int (nI i0)), some (.int (M.2 14 r.length))] []
          rw [es, s1]
          exact this
        · have eb : (!false && decide (hrC f len p = nI 41)) = false := by rw [decide_eq_false hc]; rfl
          rw [eb]
          have hX2 : X = (mN (tkM (mR M 11 (upd (M.2 11) ob (nI i))) p false) 26 (nI r.length), nI ob) := by rw [hX, clo, if_neg hc]
          subst hX2
          refine o.run 100 [2] ⟨r.length, es, by omega, ?_⟩
          show Z 2 (mdW 0 (mN (tkM (mR M 11 (upd (M.2 11) ob (nI i))) p false) 26 (M.1 26 - nI 1))) [some (.ref 0), some (.int (nI i0)), some (.int (M.2 14 r.length))] []
          rw [es, s1]
          have fin : Z 76 (mdW 0 (mN (tkM (mR M 11 (upd (M.2 11) ob (nI i))) p false) 26 (nI r.length))) [some (.ref 0), some (.int (nI i0)), some (.int (nI ob))] [] :=
            o.run 100 [] ⟨fun _ => ⟨⟨_, rfl, rfl⟩, rfl, rfl, rfl⟩, fun _ => ⟨fun _ => ⟨⟨_, rfl, rfl⟩, rfl, rfl, rfl⟩, fun q => absurd (show zB (!false) = 0 from q) (by decide)⟩⟩
          by_cases hr0 : r.length = 0
          · refine o.run 100 [76] ⟨fun _ => fin, fun q => absurd (show nI r.length ≤ 0 by rw [hr0]; decide) q⟩
          · refine o.run 100 [76] ⟨fun _ => fin, fun _ => ⟨r.length - 1, by show nI r.length - nI 1 = _; rw [pk_sub (by omega)], by omega, fun _ => fin, fun _ => ⟨fun _ => fin, fun q => absurd (show zB (!false) = 0 from q) (by decide)⟩⟩⟩
      | false =>
        have s2' : M.2 15 r.length = 0 := by rw [s2]; decide
        refine o.run 100 [76] ⟨fun q => absurd q hn0, fun _ => ⟨r.length, es, by omega, fun _ => ?_, fun q => absurd s2' q⟩⟩
        refine o.run 100 [] ⟨fun q => absurd q hn0, fun _ => ⟨fun q => absurd (show M.1 22 = 0 by rw [e22]; exact nI_0) q, fun _ => ⟨r.length, es, by omega, ob, s1, s3, ?_⟩⟩⟩
        show Z 110 (mdW 0 (mR M 10 (upd (M.2 10) ob (nI i)))) [some (.ref 0), some (.int (nI i0)), some (.int (nI i))] [.int (nI 58), .ref 0]
        refine o.cV vX4_146 (m_take (M := mR M 10 (upd (M.2 10) ob (nI i))) (p := p) (k := 58) (bb := false) hl (by omega) e12 e20 e21 e22) (fun w' rv _ hpo => ?_)
        obtain ⟨rfl, rfl⟩ := hpo
        subst hX
        refine o.run 100 [] ⟨r.length, es, by omega, ⟨_, rfl, rfl⟩, rfl, ?_, rfl⟩
        show mdW 0 (mR (tkM (mR M 10 (upd (M.2 10) ob (nI i))) p (!false && decide (hrC f len p = nI 58))) 15 (upd (M.2 15) r.length (vp_nar .boolean (zB true)))) = _
        rw [nar_b, Bool.not_false, Bool.true_and]; rfl
  exact o.run 100 [2] (loop st M p i i _ rfl o hp e12 e20 e21 e22 e26 hst hs)
end MR2
