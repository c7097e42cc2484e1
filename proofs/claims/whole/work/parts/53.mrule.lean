/-! the reference's rule() -/
theorem upd_at (f : Nat → Int32) (k : Nat) (x : Int32) : upd f k x k = x := if_pos rfl
theorem upd_no (f : Nat → Int32) {k j : Nat} (x : Int32) (h : j ≠ k) : upd f k x j = f j := if_neg h
/-- knots between a and b -/
def KBL (kd kk : Nat → Int32) (a b i : Nat) (g : zDn) : Prop := (a ≤ i ∧ i < b) ∧ ∃ (s : Int32) (k : Nat), kd i = s ∧ ¬ s = nI 40 ∧ kk i = nI k ∧ k < 100 ∧ g = fun _ => (s, k)
def KB (kd kk ko kt : Nat → Int32) (a b : Nat) : Nat → Nat → zDn → Prop
  | 0, i, g => KBL kd kk a b i g
  | d + 1, i, g => KBL kd kk a b i g ∨ ((a ≤ i ∧ i < b) ∧ kd i = nI 40 ∧ ∃ (k u v : Nat) (ga gb : zDn), kk i = nI k ∧ k < 100 ∧ ko i = nI u ∧ kt i = nI v ∧ KB kd kk ko kt a b d u ga ∧ KB kd kk ko kt a b d v gb ∧ g = fun x => if x < nI k then ga x else gb x)
theorem KBL_c {kd kk kd' kk' : Nat → Int32} {a b a' b' i : Nat} {g : zDn} (ha : a' ≤ a) (hb : b ≤ b') (h1 : ∀ j, a ≤ j → j < b → kd' j = kd j) (h2 : ∀ j, a ≤ j → j < b → kk' j = kk j) (h : KBL kd kk a b i g) : KBL kd' kk' a' b' i g := by
  obtain ⟨hi, s, k, a1, a2, a3, a4, a5⟩ := h
  exact ⟨⟨by omega, by omega⟩, s, k, by rw [h1 i hi.1 hi.2]; exact a1, a2, by rw [h2 i hi.1 hi.2]; exact a3, a4, a5⟩
theorem KB_c {kd kk ko kt kd' kk' ko' kt' : Nat → Int32} {a b a' b' : Nat} (ha : a' ≤ a) (hb : b ≤ b') (h1 : ∀ j, a ≤ j → j < b → kd' j = kd j) (h2 : ∀ j, a ≤ j → j < b → kk' j = kk j) (h3 : ∀ j, a ≤ j → j < b → ko' j = ko j) (h4 : ∀ j, a ≤ j → j < b → kt' j = kt j) : ∀ {d i : Nat} {g : zDn}, KB kd kk ko kt a b d i g → KB kd' kk' ko' kt' a' b' d i g
  | 0, _, _, h => KBL_c ha hb h1 h2 h
  | d + 1, i, g, h => by
    rcases h with h | ⟨hi, a0, k, u, v, ga, gb, a1, a2, a3, a4, a5, a6, a7⟩
    · exact Or.inl (KBL_c ha hb h1 h2 h)
    · exact Or.inr ⟨⟨by omega, by omega⟩, by rw [h1 i hi.1 hi.2]; exact a0, k, u, v, ga, gb, by rw [h2 i hi.1 hi.2]; exact a1, a2, by rw [h3 i hi.1 hi.2]; exact a3, by rw [h4 i hi.1 hi.2]; exact a4, KB_c ha hb h1 h2 h3 h4 a5, KB_c ha hb h1 h2 h3 h4 a6, a7⟩
theorem KB_KN {kd kk ko kt : Nat → Int32} {lo : Nat} : ∀ {d i : Nat} {g : zDn}, KB kd kk ko kt lo (lo + 24) d i g → KN kd kk ko kt lo d i g
  | 0, _, _, h => h
  | d + 1, i, g, h => by
    rcases h with h | ⟨hi, a0, k, u, v, ga, gb, a1, a2, a3, a4, a5, a6, a7⟩
    · exact Or.inl h
    · exact Or.inr ⟨hi, a0, k, u, v, ga, gb, a1, a2, a3, a4, KB_KN a5, KB_KN a6, a7⟩
theorem KB_leaf {kd kk ko kt : Nat → Int32} {a b i : Nat} {g : zDn} (h : KBL kd kk a b i g) : ∀ d, KB kd kk ko kt a b d i g
  | 0 => h
  | _ + 1 => Or.inl h
theorem KB_in {kd kk ko kt : Nat → Int32} {a b : Nat} : ∀ {d i : Nat} {g : zDn}, KB kd kk ko kt a b d i g → a ≤ i ∧ i < b
  | 0, _, _, h => h.1
  | _ + 1, _, _, h => h.elim (fun h => h.1) (fun h => h.1)
/-- what lasts stays, and the knots below lo -/
def rfr (lo : Nat) (M M' : zM) : Prop := (∀ k, k < 19 ∨ k = 39 → M'.1 k = M.1 k) ∧ (∀ k, k < 8 ∨ k = 12 ∨ k = 13 ∨ k = 21 → M'.2 k = M.2 k) ∧ (∀ k j, 8 ≤ k → k < 12 → j < lo → M'.2 k j = M.2 k j)
theorem rfr_rf (lo : Nat) (M : zM) : rfr lo M M := ⟨fun _ _ => rfl, fun _ _ => rfl, fun _ _ _ _ _ => rfl⟩
theorem rfr_tr {lo lo' : Nat} {M M' M'' : zM} (h : rfr lo M M') (h' : rfr lo' M' M'') (hl : lo ≤ lo') : rfr lo M M'' := ⟨fun k hk => (h'.1 k hk).trans (h.1 k hk), fun k hk => (h'.2.1 k hk).trans (h.2.1 k hk), fun k j h1 h2 h3 => (h'.2.2 k j h1 h2 (by omega)).trans (h.2.2 k j h1 h2 h3)⟩
theorem rfr_N {lo : Nat} {M M' : zM} {k : Nat} {x : Int32} (h : rfr lo M M') (h1 : 19 ≤ k) (h2 : k ≠ 39) : rfr lo M (mN M' k x) := ⟨fun j hj => by
  show upd M'.1 k x j = _
  rw [upd_no _ _ (by omega)]
  exact h.1 j hj, h.2.1, h.2.2⟩
theorem rfr_R {lo : Nat} {M M' : zM} {k : Nat} {f : Nat → Int32} (h : rfr lo M M') (h1 : 14 ≤ k) (h2 : k ≠ 21) : rfr lo M (mR M' k f) := ⟨h.1, fun j hj => by
  show (if j = k then f else M'.2 j) = _
  rw [if_neg (by omega)]
  exact h.2.1 j hj, fun i j g1 g2 g3 => by
  show (if i = k then f else M'.2 i) j = _
  rw [if_neg (by omega)]
  exact h.2.2 i j g1 g2 g3⟩
theorem rfr_K {lo : Nat} {M M' : zM} {k i : Nat} {x : Int32} (h : rfr lo M M') (h1 : 8 ≤ k ∧ k < 12) (hi : lo ≤ i) : rfr lo M (mR M' k (upd (M'.2 k) i x)) := ⟨h.1, fun j hj => by
  show (if j = k then _ else M'.2 j) = _
  rw [if_neg (by omega)]
  exact h.2.1 j hj, fun i' j g1 g2 g3 => by
  show (if i' = k then upd (M'.2 k) i x else M'.2 i') j = _
  by_cases e : i' = k
  · subst e
    rw [if_pos rfl, upd_no _ _ (by omega)]
    exact h.2.2 i' j g1 g2 g3
  · rw [if_neg e]
    exact h.2.2 i' j g1 g2 g3⟩
theorem rfr_tk {lo : Nat} {M M' : zM} {p : Nat} {b : Bool} (h : rfr lo M M') : rfr lo M (tkM M' p b) := rfr_N (rfr_N h (by omega) (by omega)) (by omega) (by omega)
theorem rfr_nk {lo : Nat} {M M' : zM} {i kn : Nat} {a b : Int32} (h : rfr lo M M') (hi : lo ≤ i) : rfr lo M (nkM M' i kn a b) := rfr_N (rfr_K (M' := mR M' 8 (upd (M'.2 8) i a)) (k := 9) (rfr_K (k := 8) h (by omega) hi) (by omega) hi) (by omega) (by omega)
theorem rfr_rn {lo : Nat} {M M' : zM} {f : Nat → Int32} {len p : Nat} (h : rfr lo M M') : rfr lo M (rnM M' f len p) := rfr_N (rfr_N (rfr_N h (by omega) (by omega)) (by omega) (by omega)) (by omega) (by omega)
/-- reading is at p, kn knots made, st opened -/
def rinv (M : zM) (f : Nat → Int32) (len p kn : Nat) (st : List (Nat × Bool)) : Prop := M.2 12 = f ∧ M.1 20 = nI p ∧ M.1 21 = nI len ∧ M.1 22 = nI 0 ∧ M.1 23 = nI kn ∧ M.1 26 = nI st.length ∧ stk M st ∧ kn ≤ p ∧ p ≤ len
def cBad (Z : zP) (base lo : Nat) (M : zM) (res : Nat × Option zDn) : Prop := res.2 = none → ∀ (M' : zM) (root : Int32) (x' : Option Value), rfr lo M M' → M'.1 20 = nI res.1 → ¬ M'.1 22 = 0 → Z 100 (mdW 0 M') [some (.ref 0), some (.int (nI base)), some (.int root), x'] []
def cOk (Z : zP) (f : Nat → Int32) (len base kn : Nat) (st : List (Nat × Bool)) (M : zM) (d : Nat) (res : Nat × Option zDn) : Prop := ∀ g, res.2 = some g → ∀ (M' : zM) (i kn' : Nat) (x' : Option Value), rfr (base + kn) M M' → rinv M' f len res.1 kn' st → kn < kn' → KB (M'.2 8) (M'.2 9) (M'.2 10) (M'.2 11) (base + kn) (base + kn') d i g → Z 96 (mdW 0 (clo f len st M' res.1 i).1) [some (.ref 0), some (.int (nI base)), some (.int (zi (-1))), x'] [.int (clo f len st M' res.1 i).2]
section MRU
variable {l : Launch} {D : va_G} {C : zC} {M : zM} {f : Nat → Int32} {len base : Nat} {Kr : zS → Option Value → Prop} {Z : zP}
set_option maxRecDepth 10000 in
theorem pz_head (o : zOps l D C RX4 kX4_rule (zfl FX4) (zkI IX4) (zkJ JX4) 3 Kr Z) {M : zM} {x : Option Value} (e22 : M.1 22 = nI 0) (h : Z 72 (mdW 0 M) [some (.ref 0), some (.int (nI base)), some (.int (zi (-1))), x] [.int (nI base), .ref 0]) : Z 59 (mdW 0 M) [some (.ref 0), some (.int (nI base)), some (.int (zi (-1))), x] [] :=
  o.run 100 [100] ⟨fun q => absurd q (by decide), fun _ => ⟨fun q => absurd (show M.1 22 = 0 by rw [e22]; exact nI_0) q, fun _ => h⟩⟩
set_option maxRecDepth 10000 in
theorem pz_bad (o : zOps l D C RX4 kX4_rule (zfl FX4) (zkI IX4) (zkJ JX4) 3 Kr Z) {M : zM} {x : Option Value} {v : Int32} (e22 : ¬ M.1 22 = 0) (h : Z 100 (mdW 0 M) [some (.ref 0), some (.int (nI base)), some (.int (zi (-1))), some (.int v)] []) : Z 75 (mdW 0 M) [some (.ref 0), some (.int (nI base)), some (.int (zi (-1))), x] [.int v] := by
  have h87 : Z 87 (mdW 0 M) [some (.ref 0), some (.int (nI base)), some (.int (zi (-1))), some (.int v)] [] :=
    o.run 100 [100] ⟨fun q => absurd q (by decide), fun _ => ⟨fun _ => h, fun q => absurd q e22⟩⟩
  exact o.run 100 [87] ⟨fun _ => h87, fun _ => ⟨fun q => absurd q e22, fun _ => h87⟩⟩
set_option maxRecDepth 10000 in
theorem pz_open (o : zOps l D C RX4 kX4_rule (zfl FX4) (zkI IX4) (zkJ JX4) 3 Kr Z) {M : zM} {x : Option Value} (h : Z 59 (mdW 0 M) [some (.ref 0), some (.int (nI base)), some (.int (zi (-1))), some (.int (zi (-1)))] []) : Z 75 (mdW 0 M) [some (.ref 0), some (.int (nI base)), some (.int (zi (-1))), x] [.int (zi (-1))] :=
  o.run 100 [59] ⟨fun _ => h, fun q => absurd (by decide) q⟩
set_option maxRecDepth 10000 in
theorem pz_ok (o : zOps l D C RX4 kX4_rule (zfl FX4) (zkI IX4) (zkJ JX4) 3 Kr Z) {M : zM} {x : Option Value} {p kn i : Nat} {st : List (Nat × Bool)} (hl : len ≤ 24) (hst : st.length ≤ 4) (hi : i < 1000) (h : rinv M f len p kn st) (hk : Z 96 (mdW 0 (clo f len st M p i).1) [some (.ref 0), some (.int (nI base)), some (.int (zi (-1))), some (.int (nI i))] [.int (clo f len st M p i).2]) : Z 75 (mdW 0 M) [some (.ref 0), some (.int (nI base)), some (.int (zi (-1))), x] [.int (nI i)] := by
  obtain ⟨e12, e20, e21, e22, e23, e26, hs, h1, h2⟩ := h
  refine o.run 100 [87] ⟨fun q => absurd q (nI_pos (by omega)), fun _ => ⟨fun _ => ?_, fun q => absurd (show M.1 22 = 0 by rw [e22]; exact nI_0) q⟩⟩
  show Z 93 (mdW 0 M) [some (.ref 0), some (.int (nI base)), some (.int (zi (-1))), some (.int (nI i))] [.int (nI i), .ref 0]
  refine o.cV vX4_153 (m_close (st := st) (i := i) hl h2 e12 e20 e21 e22 e26 hst hs) (fun w' rv _ hpo => ?_)
  obtain ⟨rfl, rfl⟩ := hpo
  exact hk
/-- one step, but for a bracket -/
theorem pz_step (o : zOps l D C RX4 kX4_rule (zfl FX4) (zkI IX4) (zkJ JX4) 3 Kr Z) {M : zM} {x : Option Value} {p kn d : Nat} {st : List (Nat × Bool)} {alt : Nat × Option zDn} (hl : len ≤ 24) (hbase : base ≤ 216) (hst : st.length ≤ 4) (h : rinv M f len p kn st)
    (hbad : cBad Z base (base + kn) M (pS f len p alt)) (hok : cOk Z f len base kn st M d (pS f len p alt)) (hopen : hrC f len p = nI 40 → Z 59 (mdW 0 M) [some (.ref 0), some (.int (nI base)), some (.int (zi (-1))), x] []) : Z 59 (mdW 0 M) [some (.ref 0), some (.int (nI base)), some (.int (zi (-1))), x] [] := by
  obtain ⟨e12, e20, e21, e22, e23, e26, hs, h1, h2⟩ := id h
  by_cases c1 : hrC f len p = nI 115 ∨ hrC f len p = nI 98 ∨ hrC f len p = nI 109 ∨ hrC f len p = nI 110
  · have hlt : p < len := by rcases c1 with e | e | e | e <;> exact hr_lt (by omega) e
    have er : pS f len p alt = (p + 1, some (fun _ => (hrC f len p, 0))) := by unfold pS; rw [if_pos c1]
    rw [er] at hok
    refine pz_head o e22 ?_
    refine o.cV vX4_150 (m_ro_leaf (M := M) hl h2 e12 e20 e21 (base := base) (kn := kn) (by omega) e23 c1) (fun w' rv _ hpo => ?_)
    obtain ⟨rfl, rfl⟩ := hpo
    have hI : rinv (nkM (mN M 20 (nI (p + 1))) (base + kn) kn (hrC f len p) (nI 0)) f len (p + 1) (kn + 1) st := ⟨e12, rfl, e21, e22, rfl, e26, stk_c (M := M) (fun _ _ => ⟨rfl, rfl⟩) hs, by omega, hlt⟩
    refine pz_ok o hl hst (by omega) hI (hok _ rfl _ (base + kn) (kn + 1) _ ?_ hI (by omega) (KB_leaf ⟨⟨by omega, by omega⟩, hrC f len p, 0, upd_at _ _ _, ?_, upd_at _ _ _, by omega, rfl⟩ d))
    · exact rfr_nk (rfr_N (rfr_rf _ _) (by omega) (by omega)) (Nat.le_refl _)
    · rcases c1 with e | e | e | e <;> rw [e] <;> exact nI_ne (by omega) (by omega) (by omega)
  by_cases c2 : hrC f len p = nI 116
  · have hlt : p < len := hr_lt (by omega) c2
    have hr1 := rdN_le (f := f) (len := len) (p := p + 1) hlt
    refine pz_head o e22 ?_
    refine o.cV vX4_150 (m_ro_try (M := M) hl h2 e12 e20 e21 e22 (base := base) (kn := kn) (by omega) e23 c2) (fun w' rv _ hpo => ?_)
    by_cases h0 : (rdN f len (p + 1)).2 = 0
    · have er : pS f len p alt = ((rdN f len (p + 1)).1, none) := by unfold pS; rw [if_neg c1, if_pos c2, if_pos h0]
      rw [er] at hbad
      rw [if_pos h0] at hpo
      obtain ⟨rfl, rfl⟩ := hpo
      have e22' : ¬ (rnM M f len p).1 22 = 0 := by
        show ¬ zB (decide ((rdN f len (p + 1)).2 = 0)) = 0
        rw [decide_eq_true h0]; decide
      exact pz_bad o e22' (hbad rfl _ _ _ (rfr_rn (rfr_rf _ _)) rfl e22')
    · have er : pS f len p alt = ((rdN f len (p + 1)).1, some (fun _ => (nI 116, (rdN f len (p + 1)).2))) := by unfold pS; rw [if_neg c1, if_pos c2, if_neg h0]
      rw [er] at hok
      rw [if_neg h0] at hpo
      obtain ⟨rfl, rfl⟩ := hpo
      have hge : p + 1 ≤ (rdN f len (p + 1)).1 := by
        unfold rdN
        split
        · split <;> show p + 1 ≤ _ <;> omega
        · exact Nat.le_refl _
      have hI : rinv (nkM (rnM M f len p) (base + kn) kn (nI 116) (nI (rdN f len (p + 1)).2)) f len (rdN f len (p + 1)).1 (kn + 1) st := ⟨e12, rfl, e21, by
        show zB (decide ((rdN f len (p + 1)).2 = 0)) = nI 0
        rw [decide_eq_false h0]; rfl, rfl, e26, stk_c (M := M) (fun _ _ => ⟨rfl, rfl⟩) hs, by omega, hr1.1⟩
      refine pz_ok o hl hst (by omega) hI (hok _ rfl _ (base + kn) (kn + 1) _ (rfr_nk (rfr_rn (rfr_rf _ _)) (Nat.le_refl _)) hI (by omega) (KB_leaf ⟨⟨by omega, by omega⟩, nI 116, (rdN f len (p + 1)).2, upd_at _ _ _, nI_ne (by omega) (by omega) (by omega), upd_at _ _ _, hr1.2, rfl⟩ d))
  by_cases c3 : hrC f len p = nI 40
  · exact hopen c3
  · have er : pS f len p alt = (p, none) := by unfold pS; rw [if_neg c1, if_neg c2, if_neg c3]
    rw [er] at hbad
    refine pz_head o e22 ?_
    refine o.cV vX4_150 (m_ro_bad (M := M) hl h2 e12 e20 e21 (base := base) e26 hst c1 c2 (fun z => absurd z c3)) (fun w' rv _ hpo => ?_)
    obtain ⟨rfl, rfl⟩ := hpo
    have e22' : ¬ (mN M 22 (nI 1)).1 22 = 0 := by show ¬ nI 1 = 0; decide
    exact pz_bad o e22' (hbad rfl _ _ _ (rfr_N (rfr_rf _ _) (by omega) (by omega)) e20 e22')
set_option maxRecDepth 10000 in
theorem pz_96 (o : zOps l D C RX4 kX4_rule (zfl FX4) (zkI IX4) (zkJ JX4) 3 Kr Z) {M : zM} {x : Option Value} (h : Z 59 (mdW 0 M) [some (.ref 0), some (.int (nI base)), some (.int (zi (-1))), x] []) : Z 96 (mdW 0 M) [some (.ref 0), some (.int (nI base)), some (.int (zi (-1))), x] [.int (zi (-1))] :=
  o.run 100 [59] h
set_option maxRecDepth 10000 in
theorem pz_96b (o : zOps l D C RX4 kX4_rule (zfl FX4) (zkI IX4) (zkJ JX4) 3 Kr Z) {M : zM} {x : Option Value} {v : Int32} (e22 : ¬ M.1 22 = 0) (h : Z 100 (mdW 0 M) [some (.ref 0), some (.int (nI base)), some (.int v), x] []) : Z 96 (mdW 0 M) [some (.ref 0), some (.int (nI base)), some (.int (zi (-1))), x] [.int v] :=
  o.run 100 [100] ⟨fun _ => h, fun _ => ⟨fun _ => h, fun q => absurd q e22⟩⟩
end MRU
