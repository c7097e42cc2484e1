/-! the reference's run -/
def smR (M M' : zM) : Prop := (∀ k, k ≠ 37 → k ≠ 38 → M'.1 k = M.1 k) ∧ (∀ k, k ≠ 16 → k ≠ 19 → k ≠ 20 → M'.2 k = M.2 k)
/-- a run under way: ways, gains, next ways; wrong years, the first year alike -/
def rnS (M M' : zM) (n : Nat) (r16 r19 r20 : Nat → Int32) (w a : Int32) : Prop := smR M M' ∧ (∀ q, q < n → M'.2 16 q = r16 q) ∧ (∀ q, q < n → M'.2 19 q = r19 q) ∧ (∀ q, q < n → M'.2 20 q = r20 q) ∧ M'.1 37 = w ∧ M'.1 38 = a
theorem smR_0 {M M' : zM} (h : smR M M') : sm0 M M' := ⟨fun k hk => h.1 k (by omega) (by omega), fun k hk => h.2 k (by omega) (by omega) (by omega)⟩
section RN
variable {M M' : zM} {n : Nat} {r16 r19 r20 : Nat → Int32} {w a : Int32}
theorem upd_c {f g : Nat → Int32} {n p : Nat} {x : Int32} (h : ∀ q, q < n → f q = g q) : ∀ q, q < n → upd f p x q = upd g p x q := fun q hq => by
  unfold upd
  split
  · rfl
  · exact h q hq
theorem rnS_37 (h : rnS M M' n r16 r19 r20 w a) (x : Int32) : rnS M (mN M' 37 x) n r16 r19 r20 x a := by
  obtain ⟨⟨h1, h2⟩, h3, h4, h5, h6, h7⟩ := h
  refine ⟨⟨fun k k1 k2 => ?_, h2⟩, h3, h4, h5, rfl, h7⟩
  show upd M'.1 37 x k = _
  unfold upd
  rw [if_neg k1]; exact h1 k k1 k2
theorem rnS_38 (h : rnS M M' n r16 r19 r20 w a) (x : Int32) : rnS M (mN M' 38 x) n r16 r19 r20 w x := by
  obtain ⟨⟨h1, h2⟩, h3, h4, h5, h6, h7⟩ := h
  refine ⟨⟨fun k k1 k2 => ?_, h2⟩, h3, h4, h5, h6, rfl⟩
  show upd M'.1 38 x k = _
  unfold upd
  rw [if_neg k2]; exact h1 k k1 k2
theorem rnS_16 (h : rnS M M' n r16 r19 r20 w a) (p : Nat) (x : Int32) : rnS M (mR M' 16 (upd (M'.2 16) p x)) n (upd r16 p x) r19 r20 w a := by
  obtain ⟨⟨h1, h2⟩, h3, h4, h5, h6, h7⟩ := h
  refine ⟨⟨h1, fun k k1 k2 k3 => ?_⟩, upd_c h3, h4, h5, h6, h7⟩
  show (if k = 16 then _ else M'.2 k) = _
  rw [if_neg k1]; exact h2 k k1 k2 k3
theorem rnS_19 (h : rnS M M' n r16 r19 r20 w a) (p : Nat) (x : Int32) : rnS M (mR M' 19 (upd (M'.2 19) p x)) n r16 (upd r19 p x) r20 w a := by
  obtain ⟨⟨h1, h2⟩, h3, h4, h5, h6, h7⟩ := h
  refine ⟨⟨h1, fun k k1 k2 k3 => ?_⟩, h3, upd_c h4, h5, h6, h7⟩
  show (if k = 19 then _ else M'.2 k) = _
  rw [if_neg k2]; exact h2 k k1 k2 k3
theorem rnS_20 (h : rnS M M' n r16 r19 r20 w a) (p : Nat) (x : Int32) : rnS M (mR M' 20 (upd (M'.2 20) p x)) n r16 r19 (upd r20 p x) w a := by
  obtain ⟨⟨h1, h2⟩, h3, h4, h5, h6, h7⟩ := h
  refine ⟨⟨h1, fun k k1 k2 k3 => ?_⟩, h3, h4, upd_c h5, h6, h7⟩
  show (if k = 20 then _ else M'.2 k) = _
  rw [if_neg k3]; exact h2 k k1 k2 k3
theorem rnS_c {s16 s19 s20 : Nat → Int32} (h : rnS M M' n r16 r19 r20 w a) (e1 : ∀ q, q < n → r16 q = s16 q) (e2 : ∀ q, q < n → r19 q = s19 q) (e3 : ∀ q, q < n → r20 q = s20 q) : rnS M M' n s16 s19 s20 w a :=
  ⟨h.1, fun q hq => (h.2.1 q hq).trans (e1 q hq), fun q hq => (h.2.2.1 q hq).trans (e2 q hq), fun q hq => (h.2.2.2.1 q hq).trans (e3 q hq), h.2.2.2.2⟩
theorem okQ_rn {t : zT} {bl : Nat → Bool} {se : Nat → Int32} {sh : Nat} {ru tw v v' : Nat → Nat} (h : okQ M t bl se sh ru tw v) (hr : rnS M M' (t.1 3) (fun q => nI (v' q)) r19 r20 w a) (hv : ∀ q, q < t.1 3 → v' q < t.1 0) : okQ M' t bl se sh ru tw v' := by
  obtain ⟨h1, h2, h3, h4, ⟨h5, h5'⟩, h6, h7⟩ := h
  obtain ⟨⟨s1, s2⟩, g1, -⟩ := hr
  refine ⟨repT_sm h1 (smR_0 ⟨s1, s2⟩), fun p hp => ⟨g1 p hp, hv p hp⟩, ?_, ?_, ⟨?_, h5'⟩, ?_, ?_⟩
  · rw [s2 17 (by omega) (by omega) (by omega)]; exact h3
  · rw [s2 18 (by omega) (by omega) (by omega)]; exact h4
  · rw [s1 30 (by omega) (by omega)]; exact h5
  · rw [s1 31 (by omega) (by omega)]; exact h6
  · unfold wthr
    rw [s1 32 (by omega) (by omega), s1 33 (by omega) (by omega), s1 34 (by omega) (by omega)]; exact h7
end RN
/-- a year in which all are wrong together -/
def wrQ (t : zT) (tw : Nat → Nat) (v : Nat → Nat) (i : Nat) : Bool := alk (t.1 3) v && decide (t.2.1 (v 0 * 4 + tw i) < t.2.1 (bst t.2.1 (tw i) (t.1 0 - 1) * 4 + tw i))
section MG
variable {l : Launch} {D : va_G} {C : zC} {M : zM} {t : zT} {c : Nat} {bl : Nat → Bool} {se : Nat → Int32} {sh : Nat} {ru tw : Nat → Nat}
set_option maxRecDepth 10000 in
set_option maxHeartbeats 1000000 in
theorem m_run {m : Nat} (h : okQ M t bl se sh ru tw (t.2.2.1 1)) (hT : okT t c) (hc : c ≤ 100) (hn : 0 < t.1 3) (hm : m ≤ 60) : zFun l D C yX4_run cX4_run 8 (some .int) (zR 4) [.ref 0, .int (nI m)] (mdW 0 M) (fun w rv => (∃ M' r20, w = mdW 0 M' ∧ rnS M M' (t.1 3) (fun q => nI (rV t bl se sh ru tw m q)) (rG t bl se sh ru tw m) r20 (nI (cnt (fun i => wrQ t tw (rV t bl se sh ru tw i) i) m)) (fndI (fnd (fun i => alk (t.1 3) (rV t bl se sh ru tw i)) (m + 1) 0))) ∧ rv = some (.int (rF t bl se sh ru tw m))) := by
  have hnb : t.1 3 ≤ 8 := hT.1.2.2.2.2.1
  have hWb : t.1 0 ≤ 6 := hT.1.1
  have hyb : t.1 4 ≤ 6000 := by have := hT.1.2.2.2.2.2.1; omega
  have a0 := h.1.1.1
  have a2 := h.1.1.2.2.1
  have a4 := h.1.1.2.2.2.2.1
  have b1 := h.1.2.1.1
  have htw := tw_lt h.2.2.2.2.2.2 hT
  obtain ⟨vv, hvv⟩ : ∃ vv, vv = rV t bl se sh ru tw := ⟨_, rfl⟩
  obtain ⟨G, hG⟩ : ∃ G, G = rG t bl se sh ru tw := ⟨_, rfl⟩
  have hvW : ∀ i q, q < t.1 3 → vv i q < t.1 0 := fun i => by
    rw [hvv]
    exact vat_ltW (fun q hq => (hT.2.2.2.1 q hq).2) i
  have hG0 : ∀ q, G 0 q = nI 0 := fun q => by rw [hG]; rfl
  have hG1 : ∀ i q, q < t.1 3 → G (i + 1) q = G i q + t.2.1 (vv i q * 4 + tw i) := fun i q hq => by
    rw [hG, hvv]
    show mix (t.1 3) (fun p => tot (t.1 3) t.2.1 (rV t bl se sh ru tw) tw (fun _ => nI 0) i p + t.2.1 (rV t bl se sh ru tw i p * 4 + tw i)) (tot (t.1 3) t.2.1 (rV t bl se sh ru tw) tw (fun _ => nI 0) i) q = _
    rw [mix_lt hq]; rfl
  have hGs : ∀ i, sm (G (i + 1)) (t.1 3) = sm (G i) (t.1 3) + sm (fun q => t.2.1 (vv i q * 4 + tw i)) (t.1 3) := fun i => by
    rw [hG, hvv]
    exact sm_tot i
  have hv1 : ∀ i p, p < t.1 3 → vv (i + 1) p = cho (t.1 3) (t.1 0) (t.1 4 + i) (vv i) (seeS sh bl se (t.1 4 + i) p) (fun o => t.2.1 (vv i o * 4 + tw i)) p (t.2.2.2.2 (ru p) (t.2.1 (vv i p * 4 + tw i))).1 (t.2.2.2.2 (ru p) (t.2.1 (vv i p * 4 + tw i))).2 := fun i p hp => by
    rw [hvv]
    exact if_pos hp
  have hv0 : vv 0 = t.2.2.1 1 := by rw [hvv]; rfl
  refine zFun_of (by decide) oX4_run tbX4 (Nat.le_of_ble_eq_true rfl) (fun Z o => ?_)
  have hrF : rF t bl se sh ru tw m = sm (G m) (t.1 3) := by rw [hG]; rfl
  rw [hrF, ← hvv, ← hG] at o
  obtain ⟨al, hal⟩ : ∃ al : Nat → Bool, al = fun i => alk (t.1 3) (vv i) := ⟨_, rfl⟩
  obtain ⟨wr, hwr⟩ : ∃ wr : Nat → Bool, wr = fun i => wrQ t tw (vv i) i := ⟨_, rfl⟩
  rw [← hal, ← hwr] at o
  have hali : ∀ i, alk (t.1 3) (vv i) = al i := fun i => by rw [hal]
  -- copying the next ways
  have copy : ∀ i, i < m → (∀ M' r20, rnS M M' (t.1 3) (fun q => nI (vv (i + 1) q)) (G (i + 1)) r20 (nI (cnt wr (i + 1))) (fndI (fnd al (i + 1) 0)) → ∀ x4 x5 x6 x7, Z 38 (mdW 0 M') [some (.ref 0), some (.int (nI m)), some (.int (sm (G (i + 1)) (t.1 3))), some (.int (nI (i + 1))), x4, x5, x6, x7] []) →
      ∀ j p, p + j = t.1 3 → ∀ M', rnS M M' (t.1 3) (mix p (fun q => nI (vv (i + 1) q)) (fun q => nI (vv i q))) (G (i + 1)) (fun q => nI (vv (i + 1) q)) (nI (cnt wr (i + 1))) (fndI (fnd al (i + 1) 0)) → ∀ x4 (x5 : Int32) x7, Z 212 (mdW 0 M') [some (.ref 0), some (.int (nI m)), some (.int (sm (G (i + 1)) (t.1 3))), some (.int (nI i)), x4, some (.int x5), some (.int (nI p)), x7] [] := by
    intro i hi next j
    induction j with
    | zero =>
      intro p hp M' hM' x4 x5 x7
      obtain rfl : p = t.1 3 := by omega
      have e4 : M'.1 4 = nI (t.1 3) := (hM'.1.1 4 (by omega) (by omega)).trans a2
      refine o.run 100 [38] ⟨fun _ => ?_, fun q => absurd (by show M'.1 4 ≤ _; rw [e4]; exact nI_le (Nat.le_refl _) (by omega)) q⟩
      have := next M' _ (rnS_c hM' (fun q hq => mix_lt hq) (fun _ _ => rfl) (fun _ _ => rfl)) x4 (some (.int x5)) (some (.int (nI (t.1 3)))) x7
      rw [← nI_1 i] at this
      exact this
    | succ j ih =>
      intro p hp M' hM' x4 x5 x7
      have e4 : M'.1 4 = nI (t.1 3) := (hM'.1.1 4 (by omega) (by omega)).trans a2
      have e20 := hM'.2.2.2.1 p (by omega)
      refine o.run 100 [212] ⟨fun q => absurd q (by show ¬ M'.1 4 ≤ _; rw [e4]; exact nI_ge (by omega) (by omega)), fun _ => ⟨p, rfl, by omega, p, rfl, by omega, ?_⟩⟩
      have h16 := rnS_16 hM' p (M'.2 20 p)
      have e20 : M'.2 20 p = (fun q => nI (vv (i + 1) q)) p := e20
      rw [show upd (mix p (fun q => nI (vv (i + 1) q)) (fun q => nI (vv i q))) p (M'.2 20 p) = mix (p + 1) (fun q => nI (vv (i + 1) q)) (fun q => nI (vv i q)) by rw [e20, mix_upd]] at h16
      have := ih (p + 1) (by omega) _ h16 x4 x5 x7
      rw [← nI_1 p] at this
      exact this
  -- the people of a year
  have ppl : ∀ i, i < m → (∀ M' r20, rnS M M' (t.1 3) (fun q => nI (vv (i + 1) q)) (G (i + 1)) r20 (nI (cnt wr (i + 1))) (fndI (fnd al (i + 1) 0)) → ∀ x4 x5 x6 x7, Z 38 (mdW 0 M') [some (.ref 0), some (.int (nI m)), some (.int (sm (G (i + 1)) (t.1 3))), some (.int (nI (i + 1))), x4, x5, x6, x7] []) →
      ∀ j p, p + j = t.1 3 → ∀ M' r20, rnS M M' (t.1 3) (fun q => nI (vv i q)) (mix p (G (i + 1)) (G i)) (mix p (fun q => nI (vv (i + 1) q)) r20) (nI (cnt wr (i + 1))) (fndI (fnd al (i + 1) 0)) → ∀ (x5 : Int32) x7, Z 137 (mdW 0 M') [some (.ref 0), some (.int (nI m)), some (.int (sm (G i) (t.1 3) + sm (fun q => t.2.1 (vv i q * 4 + tw i)) p)), some (.int (nI i)), some (.int (nI (tw i))), some (.int x5), some (.int (nI p)), x7] [] := by
    intro i hi next j
    induction j with
    | zero =>
      intro p hp M' r20 hM' x5 x7
      obtain rfl : p = t.1 3 := by omega
      have e4 : M'.1 4 = nI (t.1 3) := (hM'.1.1 4 (by omega) (by omega)).trans a2
      refine o.run 100 [212] ⟨fun _ => ?_, fun q => absurd (by show M'.1 4 ≤ _; rw [e4]; exact nI_le (Nat.le_refl _) (by omega)) q⟩
      have := copy i hi next (t.1 3) 0 (by omega) M' (rnS_c hM' (fun q hq => by rw [mix_0]) (fun q hq => mix_lt hq) (fun q hq => mix_lt hq)) (some (.int (nI (tw i)))) x5 x7
      rw [hGs] at this
      exact this
    | succ j ih =>
      intro p hp M' r20 hM' x5 x7
      have e4 : M'.1 4 = nI (t.1 3) := (hM'.1.1 4 (by omega) (by omega)).trans a2
      have e10 : M'.1 10 = nI (t.1 4) := (hM'.1.1 10 (by omega) (by omega)).trans a4
      have e1 : M'.2 1 = t.2.1 := (hM'.1.2 1 (by omega) (by omega) (by omega)).trans b1
      have e16 : M'.2 16 p = nI (vv i p) := hM'.2.1 p (by omega)
      have e19 : M'.2 19 p = G i p := (hM'.2.2.1 p (by omega)).trans (mix_ge (Nat.le_refl _))
      have hw1 := hvW i p (by omega)
      have hw2 := htw i
      have ix : nI 4 * M'.2 16 p + nI (tw i) = nI (vv i p * 4 + tw i) := by rw [e16, ix4]
      refine o.run 100 [] ⟨fun q => absurd q (by show ¬ M'.1 4 ≤ _; rw [e4]; exact nI_ge (by omega) (by omega)), fun _ => ⟨p, rfl, by omega, vv i p * 4 + tw i, ix, by omega, p, rfl, by omega, p, rfl, by omega, ?_⟩⟩
      have h19 := rnS_19 hM' p (M'.2 19 p + M'.2 1 (vv i p * 4 + tw i))
      rw [show upd (mix p (G (i + 1)) (G i)) p (M'.2 19 p + M'.2 1 (vv i p * 4 + tw i)) = mix (p + 1) (G (i + 1)) (G i) by rw [e19, e1, ← hG1 i p (by omega), mix_upd]] at h19
      show Z 199 (mdW 0 (mR M' 19 (upd (M'.2 19) p (M'.2 19 p + M'.2 1 (vv i p * 4 + tw i))))) [some (.ref 0), some (.int (nI m)), some (.int (sm (G i) (t.1 3) + sm (fun q => t.2.1 (vv i q * 4 + tw i)) p + M'.2 1 (vv i p * 4 + tw i))), some (.int (nI i)), some (.int (nI (tw i))), some (.int x5), some (.int (nI p)), some (.int (M'.2 1 (vv i p * 4 + tw i)))] [.int (nI (tw i)), .int (M'.1 10 + nI i), .int (nI p), .ref 0, .int (nI p), .ref 20]
      rw [e10, nI_add]
      refine o.cV (rest := [.int (nI p), .ref 20]) vX4_213 (m_chosen (p := p) (y := t.1 4 + i) (w := tw i) (okQ_rn h h19 (hvW i)) hT (by omega) (by omega) hw2) (fun w' rv _ hpo => ?_)
      obtain ⟨rfl, rfl⟩ := hpo
      rw [← hv1 i p (by omega)]
      refine o.run 100 [137] ⟨p, rfl, by omega, ?_⟩
      have h20 := rnS_20 h19 p ((fun q => nI (vv (i + 1) q)) p)
      rw [mix_upd] at h20
      have := ih (p + 1) (by omega) _ r20 h20 x5 (some (.int (M'.2 1 (vv i p * 4 + tw i))))
      rw [sm, ← nI_1 p, ← Int32.add_assoc] at this
      rw [e1] at this ⊢
      exact this
  have years : ∀ j i, i + j = m → ∀ M' r20, rnS M M' (t.1 3) (fun q => nI (vv i q)) (G i) r20 (nI (cnt wr i)) (fndI (fnd al i 0)) → ∀ x4 x5 x6 x7, Z 38 (mdW 0 M') [some (.ref 0), some (.int (nI m)), some (.int (sm (G i) (t.1 3))), some (.int (nI i)), x4, x5, x6, x7] [] := by
    intro j
    induction j with
    | zero =>
      intro i hi M' r20 hM' x4 x5 x6 x7
      obtain rfl : i = m := by omega
      refine o.run 100 [] ⟨fun _ => ?_, fun q => absurd (nI_le (Nat.le_refl _) (by omega)) q⟩
      show Z 249 (mdW 0 M') _ [.ref 0, .ref 0]
      refine o.cV (rest := [.ref 0]) vX4_209 (m_areAlike (okQ_rn h hM' (hvW i)) hT hn) (fun w' rv _ hpo => ?_)
      obtain ⟨rfl, rfl⟩ := hpo
      rw [hali]
      have e38 := hM'.2.2.2.2.2
      have fin : ∀ x, x = fndI (fnd al (i + 1) 0) → Z 270 (mdW 0 M') [some (.ref 0), some (.int (nI i)), some (.int (sm (G i) (t.1 3))), some (.int (nI i)), x4, x5, x6, x7] [.int x, .ref 0] := fun x hx => by
        subst hx
        exact o.run 100 [] ⟨⟨_, rfl, rfl⟩, rfl, ⟨_, r20, rfl, rnS_38 hM' _⟩, rfl⟩
      have es := fndI_snoc al (i := i) (by omega)
      rw [← e38] at es
      refine o.run 100 [270] ⟨fun q => fin _ ?_, fun q => ⟨fun q2 => fin _ ?_, fun q2 => fin _ ?_⟩⟩
      · rw [es, if_neg (fun z => by rw [(zB_0 _).mp q] at z; exact absurd z.2 (by simp))]
      · have q2 : 0 ≤ M'.1 38 := q2
        rw [es, if_neg (fun z => Int32.not_lt.mpr q2 z.1)]
      · have q2 : ¬ 0 ≤ M'.1 38 := q2
        rw [es, if_pos ⟨Int32.not_le.mp q2, zB_t q⟩]
    | succ j ih =>
      intro i hi M' r20 hM' x4 x5 x6 x7
      have hQ := okQ_rn h hM' (hvW i)
      refine o.run 100 [] ⟨fun q => absurd q (nI_ge (by omega) (by omega)), fun _ => ?_⟩
      show Z _ _ _ _
      refine o.cV vX4_206 (m_weatherAt (i := i) hQ hT hc (by omega)) (fun w' rv _ hpo => ?_)
      obtain ⟨rfl, rfl⟩ := hpo
      refine o.run 100 [] ?_
      show Z _ _ _ _
      refine o.cV vX4_209 (m_areAlike hQ hT hn) (fun w' rv _ hpo => ?_)
      obtain ⟨rfl, rfl⟩ := hpo
      rw [hali]
      have e38 := hM'.2.2.2.2.2
      have e37 := hM'.2.2.2.2.1
      have e0 : M'.1 0 = nI (t.1 0) := (hM'.1.1 0 (by omega) (by omega)).trans a0
      have e1 : M'.2 1 = t.2.1 := (hM'.1.2 1 (by omega) (by omega) (by omega)).trans b1
      have e16 : M'.2 16 0 = nI (vv i 0) := hM'.2.1 0 hn
      have hw1 := hvW i 0 hn
      have hw2 := htw i
      have ix : nI 4 * M'.2 16 0 + nI (tw i) = nI (vv i 0 * 4 + tw i) := by rw [e16, ix4]
      have h38 := rnS_38 hM' (fndI (fnd al (i + 1) 0))
      have fin2 : ∀ b : Bool, b = wr i → Z 130 (mdW 0 (mN M' 38 (fndI (fnd al (i + 1) 0)))) [some (.ref 0), some (.int (nI m)), some (.int (sm (G i) (t.1 3))), some (.int (nI i)), some (.int (nI (tw i))), some (.int (zB (al i))), x6, x7] [.int (zB b), .int (M'.1 37), .ref 0] := fun b hb => by
        have ec : M'.1 37 + zB b = nI (cnt wr (i + 1)) := by
          rw [e37, cnt, ← hb]
          cases b
          · exact nI_add _ _
          · exact nI_add _ _
        refine o.run 100 [137] ?_
        have h37 := rnS_37 h38 (M'.1 37 + zB b)
        rw [ec] at h37
        have := ppl i (by omega) (fun M'' r hr x4 x5 x6 x7 => ih (i + 1) (by omega) M'' r hr x4 x5 x6 x7) (t.1 3) 0 (by omega) _ r20 (rnS_c h37 (fun _ _ => rfl) (fun q hq => by rw [mix_0]) (fun q hq => by rw [mix_0])) (zB (al i)) x7
        have es : sm (G i) (t.1 3) + sm (fun q => t.2.1 (vv i q * 4 + tw i)) 0 = sm (G i) (t.1 3) := Int32.add_zero _
        rw [es, ← ec] at this
        exact this
      have fin : ∀ x, x = fndI (fnd al (i + 1) 0) → Z 77 (mdW 0 M') [some (.ref 0), some (.int (nI m)), some (.int (sm (G i) (t.1 3))), some (.int (nI i)), some (.int (nI (tw i))), some (.int (zB (al i))), x6, x7] [.int x, .ref 0] := fun x hx => by
        subst hx
        refine o.run 100 [129] ⟨fun q => ?_, fun q => ⟨0, rfl, by omega, vv i 0 * 4 + tw i, ix, by omega, ?_⟩⟩
        · have ha : al i = false := (zB_0 _).mp q
          exact o.run 100 [130] (fin2 false (by rw [hwr]; show false = wrQ t tw (vv i) i; unfold wrQ; rw [hali, ha, Bool.false_and]))
        · have ha : al i = true := zB_t q
          show Z 114 (mdW 0 (mN M' 38 (fndI (fnd al (i + 1) 0)))) [some (.ref 0), some (.int (nI m)), some (.int (sm (G i) (t.1 3))), some (.int (nI i)), some (.int (nI (tw i))), some (.int (zB (al i))), x6, x7] [.int (nI (tw i)), .ref 0, .int (nI 4), .ref 1, .int (M'.2 1 (vv i 0 * 4 + tw i)), .int (M'.1 37), .ref 0]
          refine o.cV (rest := [.int (nI 4), .ref 1, .int (M'.2 1 (vv i 0 * 4 + tw i)), .int (M'.1 37), .ref 0]) vX4_107 (m_bestIn (M := mN M' 38 (fndI (fnd al (i + 1) 0))) (t := tw i) hWb hw2 e0) (fun w' rv _ hpo => ?_)
          obtain ⟨rfl, rfl⟩ := hpo
          have hbb := bst_le (M'.2 1) (tw i) (t.1 0 - 1)
          refine o.run 100 [129, 130] ⟨bst (M'.2 1) (tw i) (t.1 0 - 1) * 4 + tw i, ix4 _ _, by omega, fun q2 => ?_, fun q2 => ?_⟩
          · have q2 : M'.2 1 (bst (M'.2 1) (tw i) (t.1 0 - 1) * 4 + tw i) ≤ M'.2 1 (vv i 0 * 4 + tw i) := q2
            rw [e1] at q2
            exact o.run 100 [130] (fin2 false (by rw [hwr]; show false = wrQ t tw (vv i) i; unfold wrQ; rw [decide_eq_false (Int32.not_lt.mpr q2), Bool.and_false]))
          · have q2 : ¬ M'.2 1 (bst (M'.2 1) (tw i) (t.1 0 - 1) * 4 + tw i) ≤ M'.2 1 (vv i 0 * 4 + tw i) := q2
            rw [e1] at q2
            exact fin2 true (by rw [hwr]; show true = wrQ t tw (vv i) i; unfold wrQ; rw [hali, ha, decide_eq_true (Int32.not_le.mp q2)]; rfl)
      have es := fndI_snoc al (i := i) (by omega)
      rw [← e38] at es
      refine o.run 100 [77] ⟨fun q => fin _ ?_, fun q => ⟨fun q2 => fin _ ?_, fun q2 => fin _ ?_⟩⟩
      · rw [es, if_neg (fun z => by rw [(zB_0 _).mp q] at z; exact absurd z.2 (by simp))]
      · have q2 : 0 ≤ M'.1 38 := q2
        rw [es, if_neg (fun z => Int32.not_lt.mpr q2 z.1)]
      · have q2 : ¬ 0 ≤ M'.1 38 := q2
        rw [es, if_pos ⟨Int32.not_le.mp q2, zB_t q⟩]
  have zero : ∀ j p, p + j = t.1 3 → ∀ M', rnS M M' (t.1 3) (fun q => nI (vv 0 q)) (mix p (G 0) (M.2 19)) (M.2 20) (nI 0) (zi (-9)) → Z 15 (mdW 0 M') [some (.ref 0), some (.int (nI m)), some (.int (nI 0)), some (.int (nI p)), none, none, none, none] [] := by
    intro j
    induction j with
    | zero =>
      intro p hp M' hM'
      obtain rfl : p = t.1 3 := by omega
      have e4 : M'.1 4 = nI (t.1 3) := (hM'.1.1 4 (by omega) (by omega)).trans a2
      refine o.run 100 [38] ⟨fun _ => ?_, fun q => absurd (by show M'.1 4 ≤ _; rw [e4]; exact nI_le (Nat.le_refl _) (by omega)) q⟩
      have hs : sm (G 0) (t.1 3) = nI 0 := by
        have : ∀ n, sm (G 0) n = nI 0 := fun n => by
          induction n with
          | zero => rfl
          | succ n ih => rw [sm, ih, hG0]; decide
        exact this _
      have := years m 0 (by omega) M' _ (rnS_c hM' (fun _ _ => rfl) (fun q hq => mix_lt hq) (fun _ _ => rfl)) none none none none
      rw [hs] at this
      exact this
    | succ j ih =>
      intro p hp M' hM'
      have e4 : M'.1 4 = nI (t.1 3) := (hM'.1.1 4 (by omega) (by omega)).trans a2
      refine o.run 100 [15] ⟨fun q => absurd q (by show ¬ M'.1 4 ≤ _; rw [e4]; exact nI_ge (by omega) (by omega)), fun _ => ⟨p, rfl, by omega, ?_⟩⟩
      have h19 := rnS_19 hM' p (G 0 p)
      rw [mix_upd] at h19
      have := ih (p + 1) (by omega) _ h19
      rw [← nI_1 p, hG0] at this
      exact this
  refine o.run 100 [15] ?_
  have h00 : rnS M M (t.1 3) (fun q => nI (vv 0 q)) (mix 0 (G 0) (M.2 19)) (M.2 20) (M.1 37) (M.1 38) := ⟨⟨fun _ _ _ => rfl, fun _ _ _ _ => rfl⟩, fun q hq => by rw [hv0]; exact (h.2.1 q hq).1, fun q hq => by rw [mix_0], fun _ _ => rfl, rfl, rfl⟩
  exact zero (t.1 3) 0 (by omega) _ (rnS_38 (rnS_37 h00 (nI 0)) (zi (-9)))
end MG
