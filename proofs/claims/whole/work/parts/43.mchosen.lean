/-! the reference's choice; all alike; years gone through -/
section MC
variable {l : Launch} {D : va_G} {C : zC} {M : zM} {t : zT} {c : Nat} {bl : Nat → Bool} {se : Nat → Int32} {sh : Nat} {ru tw v : Nat → Nat}
set_option maxRecDepth 10000 in
theorem m_chosen {p y w : Nat} (h : okQ M t bl se sh ru tw v) (hT : okT t c) (hp : p < t.1 3) (hy : y < 2 ^ 30) (hw : w < 4) : zFun l D C yX4_chosen cX4_chosen 5 (some .int) (zR 3) [.ref 0, .int (nI p), .int (nI y), .int (nI w)] (mdW 0 M) (fun w' rv => w' = mdW 0 M ∧ rv = some (.int (nI (cho (t.1 3) (t.1 0) y v (seeS sh bl se y p) (fun o => t.2.1 (v o * 4 + w)) p (t.2.2.2.2 (ru p) (t.2.1 (v p * 4 + w))).1 (t.2.2.2.2 (ru p) (t.2.1 (v p * 4 + w))).2)))) := by
  have hnb : t.1 3 ≤ 8 := hT.1.2.2.2.2.1
  have hWb : t.1 0 ≤ 6 := hT.1.1
  have hrb : t.1 2 ≤ 10 := hT.1.2.2.2.1
  have a0 := h.1.1.1
  have b1 := h.1.2.1.1
  have hvp := h.2.1 p hp
  have hrp := h.2.2.1 p hp
  obtain ⟨i0, d0, hi0, hk0⟩ := h.1.2.2 (ru p) hrp.2
  have hd4 := hT.2.2.2.2 (ru p) (t.2.1 (v p * 4 + w)) hrp.2
  refine zFun_of (by decide) oX4_chosen tbX4 (Nat.le_of_ble_eq_true rfl) (fun Z o => ?_)
  have ix : nI 4 * M.2 16 p + nI w = nI (v p * 4 + w) := by rw [hvp.1, ix4]
  have leaf : ∀ i (g : zDn), KL (M.2 8) (M.2 9) (24 * ru p) i g → g (t.2.1 (v p * 4 + w)) = t.2.2.2.2 (ru p) (t.2.1 (v p * 4 + w)) → Z 13 (mdW 0 M) [some (.ref 0), some (.int (nI p)), some (.int (nI y)), some (.int (nI w)), some (.int (nI i))] [] := by
    rintro i g ⟨hi, s, k, e1, e2, e3, e4, rfl⟩ hg
    rw [← hg] at hd4 o
    have hk0 : s = nI 116 → 0 < k := hd4.2
    refine o.run 100 [25, 72] ⟨i, rfl, by omega, fun _ => ?_, fun q => absurd (by rw [← e1]; exact q) e2⟩
    refine o.run 100 [120, 128, 135, 142, 191] ⟨i, rfl, by omega, ⟨fun a => ?_, fun a => ?_, fun a => ?_, fun a => ?_, trivial⟩, fun a => ?_⟩
    · have a : s = nI 98 := e1.symm.trans a
      refine o.run 100 [] ?_
      show Z _ _ _ _
      refine o.cV vX4_190 (m_bestSeen (p := p) (y := y) (w := w) h hT hp hy hw) (fun w' rv _ hpo => ?_)
      obtain ⟨rfl, rfl⟩ := hpo
      refine o.run 100 [] ⟨⟨_, rfl, rfl⟩, rfl, rfl, ?_⟩
      show _ = some (Value.int (nI (cho _ _ _ _ _ _ _ s k)))
      rw [cho, if_pos a]
    · have a : s = nI 109 := e1.symm.trans a
      refine o.run 100 [] ?_
      show Z _ _ _ _
      refine o.cV vX4_193 (m_mostSeen (p := p) (y := y) h hT hp hy) (fun w' rv _ hpo => ?_)
      obtain ⟨rfl, rfl⟩ := hpo
      refine o.run 100 [] ⟨⟨_, rfl, rfl⟩, rfl, rfl, ?_⟩
      show _ = some (Value.int (nI (cho _ _ _ _ _ _ _ s k)))
      rw [cho, a, if_neg (by decide), if_pos rfl]
    · have a : s = nI 110 := e1.symm.trans a
      refine o.run 100 [] ?_
      show Z _ _ _ _
      refine o.cV vX4_197 (m_nearSeen (p := p) (y := y) h hT hp hy) (fun w' rv _ hpo => ?_)
      obtain ⟨rfl, rfl⟩ := hpo
      refine o.run 100 [] ⟨⟨_, rfl, rfl⟩, rfl, rfl, ?_⟩
      show _ = some (Value.int (nI (cho _ _ _ _ _ _ _ s k)))
      rw [cho, a, if_neg (by decide), if_neg (by decide), if_pos rfl]
      rfl
    · have a : s = nI 116 := e1.symm.trans a
      have hk := hk0 a
      have ec : cho (t.1 3) (t.1 0) y v (seeS sh bl se y p) (fun o => t.2.1 (v o * 4 + w)) p s k = if 0 < k ∧ y % k = 0 then (if v p + 1 < t.1 0 then v p + 1 else 0) else v p := by
        rw [cho, a, if_neg (by decide), if_neg (by decide), if_neg (by decide), if_pos rfl]
      have er : nI y - nI y / M.2 9 i * M.2 9 i = nI (y % k) := by rw [e3]; exact pk_rem (by omega) hk (by omega)
      have hm := Nat.mod_lt y hk
      refine o.run 100 [] ⟨i, rfl, by omega, ?_, fun q => ⟨p, rfl, by omega, fun q2 => ⟨p, rfl, by omega, ⟨_, rfl, rfl⟩, rfl, rfl, ?_⟩, fun q2 => ⟨⟨_, rfl, rfl⟩, rfl, rfl, ?_⟩⟩, fun q => ⟨p, rfl, by omega, ⟨_, rfl, rfl⟩, rfl, rfl, ?_⟩⟩
      · show ¬ M.2 9 i = 0
        rw [e3]; exact nI_ne0 hk (by omega)
      · have q : nI y - nI y / M.2 9 i * M.2 9 i = 0 := q
        have q2 : ¬ M.2 16 p + nI 1 = M.1 0 := q2
        rw [er] at q
        rw [hvp.1, a0, nI_add, nI_eq (by omega) (by omega)] at q2
        have hz : y % k = 0 := by
          rcases Nat.eq_zero_or_pos (y % k) with z | z
          · exact z
          · exact absurd q (nI_ne0 z (by omega))
        show some (Value.int (M.2 16 p + nI 1)) = some (Value.int (nI (cho _ _ _ _ _ _ _ s k)))
        rw [ec, if_pos ⟨hk, hz⟩, if_pos (by omega), hvp.1, nI_add]
      · have q : nI y - nI y / M.2 9 i * M.2 9 i = 0 := q
        have q2 : M.2 16 p + nI 1 = M.1 0 := q2
        rw [er] at q
        rw [hvp.1, a0, nI_add, nI_eq (by omega) (by omega)] at q2
        have hz : y % k = 0 := by
          rcases Nat.eq_zero_or_pos (y % k) with z | z
          · exact z
          · exact absurd q (nI_ne0 z (by omega))
        show some (Value.int (nI 0)) = some (Value.int (nI (cho _ _ _ _ _ _ _ s k)))
        rw [ec, if_pos ⟨hk, hz⟩, if_neg (by omega)]
      · have q : ¬ nI y - nI y / M.2 9 i * M.2 9 i = 0 := q
        rw [er] at q
        show some (Value.int (M.2 16 p)) = some (Value.int (nI (cho _ _ _ _ _ _ _ s k)))
        rw [ec, if_neg (fun z => q (by rw [z.2]; exact nI_0)), hvp.1]
    · obtain ⟨n1, n2, n3, n4, -⟩ := a
      have n1 : ¬ M.2 8 i = nI 98 := n1
      have n2 : ¬ M.2 8 i = nI 109 := n2
      have n3 : ¬ M.2 8 i = nI 110 := n3
      have n4 : ¬ M.2 8 i = nI 116 := n4
      rw [e1] at n1 n2 n3 n4
      refine o.run 100 [] ⟨p, rfl, by omega, ⟨_, rfl, rfl⟩, rfl, rfl, ?_⟩
      show some (Value.int (M.2 16 p)) = some (Value.int (nI (cho _ _ _ _ _ _ _ s k)))
      rw [cho, if_neg n1, if_neg n2, if_neg n3, if_neg n4, hvp.1]
  have loop : ∀ d i (g : zDn), KN (M.2 8) (M.2 9) (M.2 10) (M.2 11) (24 * ru p) d i g → g (t.2.1 (v p * 4 + w)) = t.2.2.2.2 (ru p) (t.2.1 (v p * 4 + w)) → Z 13 (mdW 0 M) [some (.ref 0), some (.int (nI p)), some (.int (nI y)), some (.int (nI w)), some (.int (nI i))] [] := by
    intro d
    induction d with
    | zero => exact leaf
    | succ d ih =>
      intro i g hk hg
      rcases hk with hk | ⟨hi, e1, k, a, b, ga, gb, e2, e3, e4, e5, e6, e7, rfl⟩
      · exact leaf i g hk hg
      · have hg : (if t.2.1 (v p * 4 + w) < nI k then ga (t.2.1 (v p * 4 + w)) else gb (t.2.1 (v p * 4 + w))) = t.2.2.2.2 (ru p) (t.2.1 (v p * 4 + w)) := hg
        refine o.run 100 [13, 25] ⟨i, rfl, by omega, fun q => absurd e1 q, fun _ => ?_⟩
        refine o.run 100 [13] ⟨p, rfl, by omega, v p * 4 + w, ix, by omega, i, rfl, by omega, fun q => ⟨i, rfl, by omega, ?_⟩, fun q => ⟨i, rfl, by omega, ?_⟩⟩
        · have q : M.2 9 i ≤ M.2 1 (v p * 4 + w) := q
          rw [e2, b1] at q
          rw [if_neg (Int32.not_lt.mpr q)] at hg
          have := ih b gb e7 hg
          rw [← e5] at this
          exact this
        · have q : ¬ M.2 9 i ≤ M.2 1 (v p * 4 + w) := q
          rw [e2, b1] at q
          rw [if_pos (Int32.not_le.mp q)] at hg
          have := ih a ga e6 hg
          rw [← e4] at this
          exact this
  have h0 := loop d0 i0 _ hk0 rfl
  rw [← hi0] at h0
  exact o.run 100 [13] ⟨p, rfl, by omega, ru p, hrp.1, by omega, h0⟩
set_option maxRecDepth 10000 in
theorem m_areAlike (h : okQ M t bl se sh ru tw v) (hT : okT t c) (hn : 0 < t.1 3) : zFun l D C yX4_areAlike cX4_areAlike 3 (some .boolean) (zR 0) [.ref 0] (mdW 0 M) (fun w' rv => w' = mdW 0 M ∧ rv = some (.int (zB (alk (t.1 3) v)))) := by
  have hnb : t.1 3 ≤ 8 := hT.1.2.2.2.2.1
  have hWb : t.1 0 ≤ 6 := hT.1.1
  have a2 := h.1.1.2.2.1
  have h1 := h.2.1
  have hv0 := h1 0 hn
  refine zFun_of (by decide) oX4_areAlike tbX4 (Nat.le_of_ble_eq_true rfl) (fun Z o => ?_)
  have loop : ∀ j k, k + j = t.1 3 → Z 4 (mdW 0 M) [some (.ref 0), some (.int (zB (allN (fun p => decide (v p = v 0)) k))), some (.int (nI k))] [] := by
    intro j
    induction j with
    | zero =>
      intro k hk
      obtain rfl : k = t.1 3 := by omega
      refine o.run 100 [] ⟨fun _ => ⟨zB_rt _, rfl, rfl, ?_⟩, fun q => absurd (by show M.1 4 ≤ _; rw [a2]; exact nI_le (Nat.le_refl _) (by omega)) q⟩
      rw [alk_all]
    | succ j ih =>
      intro k hk
      have hvk := h1 k (by omega)
      have hnx := ih (k + 1) (by omega)
      rw [← nI_1 k] at hnx
      refine o.run 100 [4] ⟨fun q => absurd q (by show ¬ M.1 4 ≤ _; rw [a2]; exact nI_ge (by omega) (by omega)), fun _ => ⟨fun q => ?_, fun q => ⟨k, rfl, by omega, 0, rfl, by omega, fun q2 => ?_, fun q2 => ?_⟩⟩⟩
      · rw [allN, (zB_0 _).mp q, Bool.false_and] at hnx
        exact hnx
      · have q2 : ¬ M.2 16 k = M.2 16 0 := q2
        rw [hvk.1, hv0.1, nI_eq (by omega) (by omega)] at q2
        rw [allN, decide_eq_false q2, Bool.and_false] at hnx
        exact hnx
      · have q2 : M.2 16 k = M.2 16 0 := q2
        rw [hvk.1, hv0.1, nI_eq (by omega) (by omega)] at q2
        rw [allN, decide_eq_true q2, zB_t q] at hnx
        exact hnx
  have h0 := loop (t.1 3 - 1) 1 (by omega)
  have e : allN (fun p => decide (v p = v 0)) 1 = true := by simp [allN]
  rw [e] at h0
  exact o.run 100 [4] h0
end MC
