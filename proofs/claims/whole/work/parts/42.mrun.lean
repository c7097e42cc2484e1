/-! the reference's runs -/
def wthr (M : zM) (t : zT) (tw : Nat → Nat) : Prop := (M.1 32 = nI 0 ∧ ∀ i, tw i = t.2.2.1 0 ((t.1 4 + i) % t.1 1)) ∨ (∃ L x y : Nat, (0 < L ∧ L ≤ 12) ∧ (x < 4 ∧ y < 4) ∧ (M.1 32 = nI L ∧ M.1 33 = nI x ∧ M.1 34 = nI y) ∧ ∀ i, tw i = if i % (2 * L) < L then x else y)
/-- a run is laid out: who plants what, lives by what, sees whom -/
def okQ (M : zM) (t : zT) (bl : Nat → Bool) (se : Nat → Int32) (sh : Nat) (ru tw v : Nat → Nat) : Prop :=
  repT M t ∧ (∀ p, p < t.1 3 → M.2 16 p = nI (v p) ∧ v p < t.1 0) ∧ (∀ p, p < t.1 3 → M.2 17 p = nI (ru p) ∧ ru p < t.1 2) ∧ (∀ p o, p < t.1 3 → o < t.1 3 → ¬ p = o → sb (M.2 18 p) o = sb (se p) o) ∧ (M.1 30 = nI sh ∧ sh ≤ 24) ∧ (∀ o, o < t.1 3 → (nI o = M.1 31 ↔ bl o = true)) ∧ wthr M t tw
theorem tw_lt {M : zM} {t : zT} {tw : Nat → Nat} {c : Nat} (h : wthr M t tw) (hT : okT t c) (i : Nat) : tw i < 4 := by
  rcases h with ⟨-, h⟩ | ⟨L, x, y, -, ⟨hx, hy⟩, -, h⟩
  · rw [h i]; exact (hT.2.2.1 _).1
  · rw [h i]; split <;> assumption
section MQ
variable {l : Launch} {D : va_G} {C : zC} {M : zM} {t : zT} {c : Nat} {bl : Nat → Bool} {se : Nat → Int32} {sh : Nat} {ru tw v : Nat → Nat}
set_option maxRecDepth 10000 in
theorem m_weatherAt {i : Nat} (h : okQ M t bl se sh ru tw v) (hT : okT t c) (hc : c ≤ 100) (hi : i < 100) : zFun l D C yX4_weatherAt cX4_weatherAt 2 (some .int) (zR 0) [.ref 0, .int (nI i)] (mdW 0 M) (fun w rv => w = mdW 0 M ∧ rv = some (.int (nI (tw i)))) := by
  have hLb : 0 < t.1 1 ∧ t.1 1 ≤ 24 := ⟨hT.1.2.1, hT.1.2.2.1⟩
  have hy : t.1 4 ≤ 6000 := by have := hT.1.2.2.2.2.2.1; omega
  obtain ⟨⟨⟨a0, a1, a2, a3, a4, a5⟩, ⟨b1, b2, b3, b4, b5, b6⟩, kn⟩, h1, h2, h3, h4, h5, h6⟩ := h
  refine zFun_of (by decide) oX4_weatherAt tbX4 (Nat.le_of_ble_eq_true rfl) (fun Z o => ?_)
  rcases h6 with ⟨e, h6⟩ | ⟨L, x, y, ⟨hL, hL2⟩, ⟨hx, hy4⟩, ⟨e1, e2, e3⟩, h6⟩
  · refine o.run 100 [26] ⟨fun q => absurd (show M.1 32 = 0 by rw [e]; exact nI_0) q, fun _ => ⟨?_, (t.1 4 + i) % t.1 1, ?_, ?_, ⟨_, rfl, rfl⟩, rfl, rfl, ?_⟩⟩
    · show ¬ M.1 3 = 0
      rw [a1]; exact nI_ne0 hLb.1 (by omega)
    · show (M.1 10 + nI i) - (M.1 10 + nI i) / M.1 3 * M.1 3 = _
      rw [a1, a4, nI_add]; exact pk_rem (by omega) hLb.1 (by omega)
    · have := Nat.mod_lt (t.1 4 + i) hLb.1; omega
    · rw [b2, h6 i]
  · have er : nI i - nI i / (nI 2 * M.1 32) * (nI 2 * M.1 32) = nI (i % (2 * L)) := by
      rw [e1, pk_mul]; exact pk_rem (by omega) (by omega) (by omega)
    refine o.run 100 [26] ⟨fun _ => ?_, fun q => absurd q (by show ¬ M.1 32 = 0; rw [e1]; exact nI_ne0 hL (by omega))⟩
    have hm := Nat.mod_lt i (show 0 < 2 * L by omega)
    refine o.run 100 [] ⟨?_, fun q => ⟨⟨_, rfl, rfl⟩, rfl, rfl, ?_⟩, fun q => ⟨⟨_, rfl, rfl⟩, rfl, rfl, ?_⟩⟩
    · show ¬ nI 2 * M.1 32 = 0
      rw [e1, pk_mul]; exact nI_ne0 (by omega) (by omega)
    · have q : M.1 32 ≤ nI i - nI i / (nI 2 * M.1 32) * (nI 2 * M.1 32) := q
      rw [er, e1, nI_leI (by omega) (by omega)] at q
      rw [h6 i, if_neg (by omega), e3]
    · have q : ¬ M.1 32 ≤ nI i - nI i / (nI 2 * M.1 32) * (nI 2 * M.1 32) := q
      rw [er, e1, nI_leI (by omega) (by omega)] at q
      rw [h6 i, if_pos (by omega), e2]
set_option maxRecDepth 10000 in
theorem m_doesSee {p q y : Nat} (h : okQ M t bl se sh ru tw v) (hT : okT t c) (hp : p < t.1 3) (hq : q < t.1 3) (hy : y < 2 ^ 30) : zFun l D C yX4_doesSee cX4_doesSee 5 (some .boolean) (zR 0) [.ref 0, .int (nI p), .int (nI q), .int (nI y)] (mdW 0 M) (fun w rv => w = mdW 0 M ∧ rv = some (.int (zB (seeS sh bl se y p q)))) := by
  have hnb : t.1 3 ≤ 8 := hT.1.2.2.2.2.1
  obtain ⟨-, h1, h2, h3, ⟨e30, hsh⟩, h5, h6⟩ := h
  refine zFun_of (by decide) oX4_doesSee tbX4 (Nat.le_of_ble_eq_true rfl) (fun Z o => ?_)
  refine o.run 100 [7] ⟨fun g => ?_, fun g => ?_⟩
  · have g : ¬ nI p = nI q := g
    rw [nI_eq (by omega) (by omega)] at g
    have fin : ∀ b : Bool, b = decide (0 < sh ∧ y % sh = 0) → Z 28 (mdW 0 M) [some (.ref 0), some (.int (nI p)), some (.int (nI q)), some (.int (nI y)), none] [.int (zB b)] := fun b hb => by
      have es : seeS sh bl se y p q = (!bl q && (b || sb (se p) q)) := by
        unfold seeS; rw [decide_eq_false g, Bool.false_or, hb]
      refine o.run 100 [61, 57, 43] ⟨fun g1 => ?_, fun g1 => ⟨fun g2 => ?_, fun g2 => ?_⟩⟩
      · have hb1 : bl q = true := (h5 q hq).mp g1
        refine o.run 100 [] ⟨zB_rt false, rfl, rfl, ?_⟩
        rw [es, hb1]; rfl
      · have hb1 : bl q = false := by
          cases hz : bl q with
          | false => rfl
          | true => exact absurd ((h5 q hq).mpr hz) g1
        have hb2 := zB_t g2
        refine o.run 100 [] ⟨zB_rt true, rfl, rfl, ?_⟩
        rw [es, hb1, hb2]; rfl
      · have hb1 : bl q = false := by
          cases hz : bl q with
          | false => rfl
          | true => exact absurd ((h5 q hq).mpr hz) g1
        have hb2 := (zB_0 b).mp g2
        have hs := sb_ref (x := M.2 18 p) (o := q) (by omega)
        refine o.run 100 [] ⟨p, rfl, by omega, fun g3 => ⟨zB_rt false, rfl, rfl, ?_⟩, fun g3 => ⟨zB_rt true, rfl, rfl, ?_⟩⟩
        · have g3 : ¬ ((M.2 18 p >>> (nI q &&& 31)) &&& nI 1) = nI 1 := g3
          have hz : sb (se p) q = false := by
            rw [← h3 p q hp hq g]
            cases hz : sb (M.2 18 p) q with
            | false => rfl
            | true => exact absurd (hs.mpr hz) g3
          rw [es, hb1, hb2, hz]; rfl
        · have hz : sb (se p) q = true := by
            rw [← h3 p q hp hq g]
            exact hs.mp g3
          rw [es, hb1, hb2, hz]; rfl
    refine o.run 100 [27, 28] ⟨fun g1 => ?_, fun g1 => ?_⟩
    · have g1 : M.1 30 ≤ 0 := g1
      have h0 : sh = 0 := by
        rcases Nat.eq_zero_or_pos sh with z | z
        · exact z
        · rw [e30] at g1; exact absurd g1 (nI_nle z (by omega))
      exact o.run 100 [28] (fin false (by rw [decide_eq_false]; omega))
    · have g1 : ¬ M.1 30 ≤ 0 := g1
      have h0 : 0 < sh := by
        rcases Nat.eq_zero_or_pos sh with z | z
        · rw [e30, z] at g1; exact absurd (by decide) g1
        · exact z
      have er : nI y - nI y / M.1 30 * M.1 30 = nI (y % sh) := by rw [e30]; exact pk_rem (by omega) h0 (by omega)
      have hm := Nat.mod_lt y h0
      refine ⟨?_, fun g2 => ?_, fun g2 => ?_⟩
      · show ¬ M.1 30 = 0
        rw [e30]; exact nI_ne0 h0 (by omega)
      · have g2 : ¬ nI y - nI y / M.1 30 * M.1 30 = 0 := g2
        rw [er] at g2
        exact o.run 100 [28] (fin false (by rw [decide_eq_false]; exact fun z => g2 (by rw [z.2]; exact nI_0)))
      · have g2 : nI y - nI y / M.1 30 * M.1 30 = 0 := g2
        rw [er] at g2
        have hz : y % sh = 0 := by
          rcases Nat.eq_zero_or_pos (y % sh) with z | z
          · exact z
          · exact absurd g2 (nI_ne0 z (by omega))
        exact fin true (by rw [decide_eq_true]; exact ⟨h0, hz⟩)
  · have g : nI p = nI q := g
    rw [nI_eq (by omega) (by omega)] at g
    subst g
    refine ⟨zB_rt true, rfl, rfl, ?_⟩
    rw [see_self]; rfl
set_option maxRecDepth 10000 in
theorem m_planting {p y w : Nat} (h : okQ M t bl se sh ru tw v) (hT : okT t c) (hp : p < t.1 3) (hy : y < 2 ^ 30) (hw : w < 6) : zFun l D C yX4_planting cX4_planting 6 (some .int) (zR 1) [.ref 0, .int (nI p), .int (nI y), .int (nI w)] (mdW 0 M) (fun w' rv => w' = mdW 0 M ∧ rv = some (.int (nI (cnt (fun o => seeS sh bl se y p o && decide (v o = w)) (t.1 3))))) := by
  have hnb : t.1 3 ≤ 8 := hT.1.2.2.2.2.1
  have hWb : t.1 0 ≤ 6 := hT.1.1
  have a2 := h.1.1.2.2.1
  have h1 := h.2.1
  refine zFun_of (by decide) oX4_planting tbX4 (Nat.le_of_ble_eq_true rfl) (fun Z o => ?_)
  have loop : ∀ j k, k + j = t.1 3 → Z 6 (mdW 0 M) [some (.ref 0), some (.int (nI p)), some (.int (nI y)), some (.int (nI w)), some (.int (nI (cnt (fun o => seeS sh bl se y p o && decide (v o = w)) k))), some (.int (nI k))] [] := by
    intro j
    induction j with
    | zero =>
      intro k hk
      obtain rfl : k = t.1 3 := by omega
      exact o.run 100 [] ⟨fun _ => ⟨⟨_, rfl, rfl⟩, rfl, rfl, rfl⟩, fun q => absurd (by show M.1 4 ≤ _; rw [a2]; exact nI_le (Nat.le_refl _) (by omega)) q⟩
    | succ j ih =>
      intro k hk
      have hvk := h1 k (by omega)
      have no : (seeS sh bl se y p k && decide (v k = w)) = false → Z 6 (mdW 0 M) [some (.ref 0), some (.int (nI p)), some (.int (nI y)), some (.int (nI w)), some (.int (nI (cnt (fun o => seeS sh bl se y p o && decide (v o = w)) k) + nI 0)), some (.int (nI k + nI 1))] [] := fun hf => by
        have := ih (k + 1) (by omega)
        have e : cnt (fun o => seeS sh bl se y p o && decide (v o = w)) (k + 1) = cnt (fun o => seeS sh bl se y p o && decide (v o = w)) k + 0 := by
          rw [cnt, if_neg (by rw [hf]; simp)]
        rw [e, ← nI_add, ← nI_1 k] at this
        exact this
      refine o.run 100 [] ⟨fun q => absurd q (by show ¬ M.1 4 ≤ _; rw [a2]; exact nI_ge (by omega) (by omega)), fun _ => ?_⟩
      show Z _ _ _ _
      refine o.cV (rest := [.int (nI (cnt (fun o => seeS sh bl se y p o && decide (v o = w)) k))]) vX4_183 (m_doesSee (p := p) (q := k) (y := y) h hT hp (by omega) hy) (fun w' rv _ hpo => ?_)
      obtain ⟨rfl, rfl⟩ := hpo
      refine o.run 100 [6] ⟨fun q => ?_, fun q => ⟨k, rfl, by omega, fun q2 => ?_, fun q2 => ?_⟩⟩
      · exact no (by rw [(zB_0 _).mp q, Bool.false_and])
      · have q2 : ¬ M.2 16 k = nI w := q2
        rw [hvk.1, nI_eq (by omega) (by omega)] at q2
        exact no (by rw [decide_eq_false q2, Bool.and_false])
      · have q2 : M.2 16 k = nI w := q2
        rw [hvk.1, nI_eq (by omega) (by omega)] at q2
        have := ih (k + 1) (by omega)
        have e : cnt (fun o => seeS sh bl se y p o && decide (v o = w)) (k + 1) = cnt (fun o => seeS sh bl se y p o && decide (v o = w)) k + 1 := by
          rw [cnt, if_pos (by rw [zB_t q, decide_eq_true q2]; rfl)]
        rw [e, ← nI_add, ← nI_1 k] at this
        exact this
  exact o.run 100 [6] (loop (t.1 3) 0 (by omega))
set_option maxRecDepth 10000 in
theorem m_bestSeen {p y w : Nat} (h : okQ M t bl se sh ru tw v) (hT : okT t c) (hp : p < t.1 3) (hy : y < 2 ^ 30) (hw : w < 4) : zFun l D C yX4_bestSeen cX4_bestSeen 8 (some .int) (zR 1) [.ref 0, .int (nI p), .int (nI y), .int (nI w)] (mdW 0 M) (fun w' rv => w' = mdW 0 M ∧ rv = some (.int (nI (v (bsn (seeS sh bl se y p) (fun o => t.2.1 (v o * 4 + w)) p (t.1 3)))))) := by
  have hnb : t.1 3 ≤ 8 := hT.1.2.2.2.2.1
  have hWb : t.1 0 ≤ 6 := hT.1.1
  have a2 := h.1.1.2.2.1
  have b1 := h.1.2.1.1
  have h1 := h.2.1
  refine zFun_of (by decide) oX4_bestSeen tbX4 (Nat.le_of_ble_eq_true rfl) (fun Z o => ?_)
  have ix : ∀ q, q < t.1 3 → nI 4 * M.2 16 q + nI w = nI (v q * 4 + w) ∧ v q * 4 + w < 24 := fun q hq => by
    have := h1 q hq
    rw [this.1, ix4]
    exact ⟨rfl, by omega⟩
  have loop : ∀ j k, k + j = t.1 3 → ∀ x6 x7, Z 6 (mdW 0 M) [some (.ref 0), some (.int (nI p)), some (.int (nI y)), some (.int (nI w)), some (.int (nI (bsn (seeS sh bl se y p) (fun o => t.2.1 (v o * 4 + w)) p k))), some (.int (nI k)), x6, x7] [] := by
    intro j
    induction j with
    | zero =>
      intro k hk x6 x7
      obtain rfl : k = t.1 3 := by omega
      have hb := bsn_lt (see := seeS sh bl se y p) (br := fun o => t.2.1 (v o * 4 + w)) hp (t.1 3) (Nat.le_refl _)
      refine o.run 100 [] ⟨fun _ => ⟨_, rfl, by omega, ⟨_, rfl, rfl⟩, rfl, rfl, ?_⟩, fun q => absurd (by show M.1 4 ≤ _; rw [a2]; exact nI_le (Nat.le_refl _) (by omega)) q⟩
      rw [(h1 _ hb).1]
    | succ j ih =>
      intro k hk x6 x7
      have hb := bsn_lt (see := seeS sh bl se y p) (br := fun o => t.2.1 (v o * 4 + w)) hp k (by omega)
      have hor := bsn_or (see := seeS sh bl se y p) (br := fun o => t.2.1 (v o * 4 + w)) (p := p) k
      have hnx := ih (k + 1) (by omega)
      rw [bsn] at hnx
      generalize hB : bsn (seeS sh bl se y p) (fun o => t.2.1 (v o * 4 + w)) p k = B at hb hor hnx ⊢
      have i1 := ix k (by omega)
      have i2 := ix B hb
      refine o.run 100 [] ⟨fun q => absurd q (by show ¬ M.1 4 ≤ _; rw [a2]; exact nI_ge (by omega) (by omega)), fun _ => ⟨k, rfl, by omega, v k * 4 + w, i1.1, i1.2, B, rfl, by omega, v B * 4 + w, i2.1, i2.2, ?_⟩⟩
      show Z 56 (mdW 0 M) [some (.ref 0), some (.int (nI p)), some (.int (nI y)), some (.int (nI w)), some (.int (nI B)), some (.int (nI k)), some (.int (M.2 1 (v k * 4 + w))), some (.int (M.2 1 (v B * 4 + w)))] [.int (nI y), .int (nI k), .int (nI p), .ref 0]
      refine o.cV vX4_183 (m_doesSee (p := p) (q := k) (y := y) h hT hp (by omega) hy) (fun w' rv _ hpo => ?_)
      obtain ⟨rfl, rfl⟩ := hpo
      have no : ¬ (seeS sh bl se y p k = true ∧ t.2.1 (v B * 4 + w) < t.2.1 (v k * 4 + w)) → Z 94 (mdW 0 M) [some (.ref 0), some (.int (nI p)), some (.int (nI y)), some (.int (nI w)), some (.int (nI B)), some (.int (nI k)), some (.int (M.2 1 (v k * 4 + w))), some (.int (M.2 1 (v B * 4 + w)))] [] := fun hn => by
        have := hnx (some (.int (M.2 1 (v k * 4 + w)))) (some (.int (M.2 1 (v B * 4 + w))))
        rw [if_neg hn, ← nI_1 k] at this
        exact o.run 100 [6] this
      refine o.run 100 [89, 94] ⟨fun q => ?_, fun q => ⟨fun q1 => ?_, fun q1 => ⟨fun q2 => ?_, fun q2 => ⟨fun q3 => ?_, fun q3 => ⟨fun q4 => ?_, fun q4 => ?_⟩⟩⟩⟩⟩
      · exact no (fun z => by rw [(zB_0 _).mp q] at z; exact absurd z.1 (by simp))
      · have q1 : M.2 1 (v B * 4 + w) < M.2 1 (v k * 4 + w) := q1
        have := hnx (some (.int (M.2 1 (v k * 4 + w)))) (some (.int (M.2 1 (v B * 4 + w))))
        rw [if_pos ⟨zB_t q, by rw [← b1]; exact q1⟩, ← nI_1 k] at this
        exact o.run 100 [6] this
      · have q1 : ¬ M.2 1 (v B * 4 + w) < M.2 1 (v k * 4 + w) := q1
        exact no (fun z => q1 (by rw [b1]; exact z.2))
      · have q1 : ¬ M.2 1 (v B * 4 + w) < M.2 1 (v k * 4 + w) := q1
        exact no (fun z => q1 (by rw [b1]; exact z.2))
      · have q1 : ¬ M.2 1 (v B * 4 + w) < M.2 1 (v k * 4 + w) := q1
        exact no (fun z => q1 (by rw [b1]; exact z.2))
      · have q3 : ¬ nI B = nI p := q3
        have q4 : ¬ nI B ≤ nI k := q4
        rw [nI_eq (by omega) (by omega)] at q3
        rw [nI_leI (by omega) (by omega)] at q4
        omega
  exact o.run 100 [6] (loop (t.1 3) 0 (by omega) none none)
set_option maxRecDepth 10000 in
theorem m_mostSeen {p y : Nat} (h : okQ M t bl se sh ru tw v) (hT : okT t c) (hp : p < t.1 3) (hy : y < 2 ^ 30) : zFun l D C yX4_mostSeen cX4_mostSeen 8 (some .int) (zR 2) [.ref 0, .int (nI p), .int (nI y)] (mdW 0 M) (fun w' rv => w' = mdW 0 M ∧ rv = some (.int (nI (msn (fun w => cnt (fun o => seeS sh bl se y p o && decide (v o = w)) (t.1 3)) (v p) (t.1 0))))) := by
  have hnb : t.1 3 ≤ 8 := hT.1.2.2.2.2.1
  have hWb : t.1 0 ≤ 6 := hT.1.1
  have a0 := h.1.1.1
  have h1 := h.2.1
  have hvp := h1 p hp
  refine zFun_of (by decide) oX4_mostSeen tbX4 (Nat.le_of_ble_eq_true rfl) (fun Z o => ?_)
  obtain ⟨cc, hcc⟩ : ∃ cc : Nat → Nat, cc = fun w => cnt (fun o => seeS sh bl se y p o && decide (v o = w)) (t.1 3) := ⟨_, rfl⟩
  have hcl : ∀ w, cc w ≤ 8 := fun w => by
    rw [hcc]
    exact Nat.le_trans (cnt_le _ _) hnb
  have hpl : ∀ w, w < 6 → zFun l D C yX4_planting cX4_planting 6 (some .int) (zR 1) [.ref 0, .int (nI p), .int (nI y), .int (nI w)] (mdW 0 M) (fun w' rv => w' = mdW 0 M ∧ rv = some (.int (nI (cc w)))) := fun w hw => by
    rw [hcc]
    exact m_planting h hT hp hy hw
  rw [← hcc] at o
  have loop : ∀ j k, k + j = t.1 0 → ∀ b : Bool, (b = true → msn cc (v p) k = v p) → ∀ x7, Z 22 (mdW 0 M) [some (.ref 0), some (.int (nI p)), some (.int (nI y)), some (.int (nI (msn cc (v p) k))), some (.int (nI (cc (msn cc (v p) k)))), some (.int (zB b)), some (.int (nI k)), x7] [] := by
    intro j
    induction j with
    | zero =>
      intro k hk b hb x7
      obtain rfl : k = t.1 0 := by omega
      refine o.run 100 [] ⟨fun _ => ⟨fun q => ⟨⟨_, rfl, rfl⟩, rfl, rfl, rfl⟩, fun q => ⟨p, rfl, by omega, ⟨_, rfl, rfl⟩, rfl, rfl, ?_⟩⟩, fun q => absurd (by show M.1 0 ≤ _; rw [a0]; exact nI_le (Nat.le_refl _) (by omega)) q⟩
      rw [hvp.1, hb (zB_t q)]
    | succ j ih =>
      intro k hk b hb x7
      refine o.run 100 [] ⟨fun q => absurd q (by show ¬ M.1 0 ≤ _; rw [a0]; exact nI_ge (by omega) (by omega)), fun _ => ?_⟩
      show Z _ _ _ _
      refine o.cV vX4_187 (hpl k (by omega)) (fun w' rv _ hpo => ?_)
      obtain ⟨rfl, rfl⟩ := hpo
      have c1 := hcl k
      have c2 := hcl (msn cc (v p) k)
      refine o.run 100 [22] ⟨fun q => ?_, fun q => ?_⟩
      · have q : nI (cc k) ≤ nI (cc (msn cc (v p) k)) := q
        rw [nI_leI (by omega) (by omega)] at q
        have e : msn cc (v p) (k + 1) = msn cc (v p) k := by rw [msn, if_neg (by omega)]
        have := ih (k + 1) (by omega) b (fun z => by rw [e]; exact hb z) (some (.int (nI (cc k))))
        rw [e, ← nI_1 k] at this
        exact this
      · have q : ¬ nI (cc k) ≤ nI (cc (msn cc (v p) k)) := q
        rw [nI_leI (by omega) (by omega)] at q
        have e : msn cc (v p) (k + 1) = k := by rw [msn, if_pos (by omega)]
        have := ih (k + 1) (by omega) false (fun z => by cases z) (some (.int (nI (cc k))))
        rw [e, ← nI_1 k] at this
        exact this
  refine o.run 100 [] ⟨p, rfl, by omega, ?_⟩
  show Z 11 (mdW 0 M) [some (.ref 0), some (.int (nI p)), some (.int (nI y)), some (.int (M.2 16 p)), none, none, none, none] [.int (M.2 16 p), .int (nI y), .int (nI p), .ref 0]
  rw [hvp.1]
  refine o.cV vX4_187 (hpl (v p) (by omega)) (fun w' rv _ hpo => ?_)
  obtain ⟨rfl, rfl⟩ := hpo
  exact o.run 100 [22] (loop (t.1 0) 0 (by omega) true (fun _ => rfl) none)
set_option maxRecDepth 10000 in
theorem m_nearSeen {p y : Nat} (h : okQ M t bl se sh ru tw v) (hT : okT t c) (hp : p < t.1 3) (hy : y < 2 ^ 30) : zFun l D C yX4_nearSeen cX4_nearSeen 6 (some .int) (zR 1) [.ref 0, .int (nI p), .int (nI y)] (mdW 0 M) (fun w' rv => w' = mdW 0 M ∧ rv = some (.int (nI (v (match nrb (seeS sh bl se y p) p (t.1 3) with
    | some j => j
    | none => nrl (seeS sh bl se y p) p (t.1 3)))))) := by
  have hnb : t.1 3 ≤ 8 := hT.1.2.2.2.2.1
  have a2 := h.1.1.2.2.1
  have h1 := h.2.1
  refine zFun_of (by decide) oX4_nearSeen tbX4 (Nat.le_of_ble_eq_true rfl) (fun Z o => ?_)
  have loop : ∀ j k, k + j = t.1 3 → Z 8 (mdW 0 M) [some (.ref 0), some (.int (nI p)), some (.int (nI y)), some (.int (nrI (nrb (seeS sh bl se y p) p k))), some (.int (nI (nrm (seeS sh bl se y p) p k))), some (.int (nI k))] [] := by
    intro j
    induction j with
    | zero =>
      intro k hk
      obtain rfl : k = t.1 3 := by omega
      have hm := nrm_lt (see := seeS sh bl se y p) hp (t.1 3) (Nat.le_refl _)
      have he := nrm_eq (see := seeS sh bl se y p) see_self (t.1 3) hp
      refine o.run 100 [] ⟨fun _ => ?_, fun q => absurd (by show M.1 4 ≤ _; rw [a2]; exact nI_le (Nat.le_refl _) (by omega)) q⟩
      generalize hq : nrb (seeS sh bl se y p) p (t.1 3) = x
      cases x with
      | none =>
        refine ⟨fun q => absurd q (by decide), fun _ => ⟨_, rfl, by omega, ⟨_, rfl, rfl⟩, rfl, rfl, ?_⟩⟩
        rw [(h1 _ hm).1, he]
      | some i =>
        have hi := nrb_lt (t.1 3) i hq
        refine ⟨fun _ => ⟨i, rfl, by omega, ⟨_, rfl, rfl⟩, rfl, rfl, ?_⟩, fun q => absurd (nI_le (Nat.zero_le i) (by omega)) q⟩
        rw [(h1 i (by omega)).1]
    | succ j ih =>
      intro k hk
      have hm := nrm_lt (see := seeS sh bl se y p) hp k (by omega)
      refine o.run 100 [] ⟨fun q => absurd q (by show ¬ M.1 4 ≤ _; rw [a2]; exact nI_ge (by omega) (by omega)), fun _ => ?_⟩
      show Z _ _ _ _
      refine o.cV vX4_183 (m_doesSee (p := p) (q := k) (y := y) h hT hp (by omega) hy) (fun w' rv _ hpo => ?_)
      obtain ⟨rfl, rfl⟩ := hpo
      have hnx := ih (k + 1) (by omega)
      refine o.run 100 [8] ⟨fun q => ?_, fun q => ⟨fun q1 => ⟨fun q2 => ?_, fun q2 => ?_⟩, fun q1 => ⟨fun q2 => ?_, fun q2 => ?_⟩⟩⟩
      · have hs : ¬ seeS sh bl se y p k = true := by rw [(zB_0 _).mp q]; simp
        rw [nrb, if_neg (fun z => hs z.1), nrm, if_neg (fun z => hs z.1), ← nI_1 k] at hnx
        exact hnx
      · have hs := zB_t q
        have q1 : nI p ≤ nI k := q1
        have q2 : nI k ≤ nI (nrm (seeS sh bl se y p) p k) := q2
        rw [nI_leI (by omega) (by omega)] at q1 q2
        rw [nrb, if_neg (by omega), nrm, if_neg (by omega), ← nI_1 k] at hnx
        exact hnx
      · have hs := zB_t q
        have q1 : nI p ≤ nI k := q1
        have q2 : ¬ nI k ≤ nI (nrm (seeS sh bl se y p) p k) := q2
        rw [nI_leI (by omega) (by omega)] at q1 q2
        rw [nrb, if_neg (by omega), nrm, if_pos ⟨hs, by omega⟩, ← nI_1 k] at hnx
        exact hnx
      · have hs := zB_t q
        have q1 : ¬ nI p ≤ nI k := q1
        have q2 : nI k ≤ nI (nrm (seeS sh bl se y p) p k) := q2
        rw [nI_leI (by omega) (by omega)] at q1 q2
        rw [nrb, if_pos ⟨hs, by omega⟩, nrm, if_neg (by omega), ← nI_1 k] at hnx
        exact hnx
      · have hs := zB_t q
        have q1 : ¬ nI p ≤ nI k := q1
        have q2 : ¬ nI k ≤ nI (nrm (seeS sh bl se y p) p k) := q2
        rw [nI_leI (by omega) (by omega)] at q1 q2
        rw [nrb, if_pos ⟨hs, by omega⟩, nrm, if_pos ⟨hs, by omega⟩, ← nI_1 k] at hnx
        exact hnx
  exact o.run 100 [8] (loop (t.1 3) 0 (by omega))
end MQ
