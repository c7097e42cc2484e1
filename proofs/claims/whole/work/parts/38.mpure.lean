/-! the reference: its state, and what is true of it without any machine -/
def mN (M : zM) (k : Nat) (x : Int32) : zM := (upd M.1 k x, M.2)
def mR (M : zM) (k : Nat) (f : Nat → Int32) : zM := (M.1, fun j => if j = k then f else M.2 j)
theorem mdW_len (b : Nat) (M : zM) : (mdW b M).length = 22 := rfl
-- knots
def KL (kd kk : Nat → Int32) (lo i : Nat) (g : zDn) : Prop := (lo ≤ i ∧ i < lo + 24) ∧ ∃ (s : Int32) (k : Nat), kd i = s ∧ ¬ s = nI 40 ∧ kk i = nI k ∧ k < 100 ∧ g = fun _ => (s, k)
/-- the knot i, in the place of a rule at lo, is read as g -/
def KN (kd kk ko kt : Nat → Int32) (lo : Nat) : Nat → Nat → zDn → Prop
  | 0, i, g => KL kd kk lo i g
  | d + 1, i, g => KL kd kk lo i g ∨ ((lo ≤ i ∧ i < lo + 24) ∧ kd i = nI 40 ∧ ∃ (k a b : Nat) (ga gb : zDn), kk i = nI k ∧ k < 100 ∧ ko i = nI a ∧ kt i = nI b ∧ KN kd kk ko kt lo d a ga ∧ KN kd kk ko kt lo d b gb ∧ g = fun x => if x < nI k then ga x else gb x)
theorem KN_in {kd kk ko kt : Nat → Int32} {lo : Nat} : ∀ {d i : Nat} {g : zDn}, KN kd kk ko kt lo d i g → lo ≤ i ∧ i < lo + 24
  | 0, _, _, h => h.1
  | d + 1, _, _, h => h.elim (fun h => h.1) (fun h => h.1)
theorem KL_c {kd kk kd' kk' : Nat → Int32} {lo i : Nat} {g : zDn} (h1 : ∀ j, lo ≤ j → j < lo + 24 → kd' j = kd j) (h2 : ∀ j, lo ≤ j → j < lo + 24 → kk' j = kk j) (h : KL kd kk lo i g) : KL kd' kk' lo i g := by
  obtain ⟨hi, s, k, a1, a2, a3, a4, a5⟩ := h
  exact ⟨hi, s, k, by rw [h1 i hi.1 hi.2]; exact a1, a2, by rw [h2 i hi.1 hi.2]; exact a3, a4, a5⟩
theorem KN_c {kd kk ko kt kd' kk' ko' kt' : Nat → Int32} {lo : Nat} (h1 : ∀ j, lo ≤ j → j < lo + 24 → kd' j = kd j) (h2 : ∀ j, lo ≤ j → j < lo + 24 → kk' j = kk j) (h3 : ∀ j, lo ≤ j → j < lo + 24 → ko' j = ko j) (h4 : ∀ j, lo ≤ j → j < lo + 24 → kt' j = kt j) : ∀ {d i : Nat} {g : zDn}, KN kd kk ko kt lo d i g → KN kd' kk' ko' kt' lo d i g
  | 0, _, _, h => KL_c h1 h2 h
  | d + 1, i, g, h => by
    rcases h with h | ⟨hi, a0, k, a, b, ga, gb, a1, a2, a3, a4, a5, a6, a7⟩
    · exact Or.inl (KL_c h1 h2 h)
    · exact Or.inr ⟨hi, by rw [h1 i hi.1 hi.2]; exact a0, k, a, b, ga, gb, by rw [h2 i hi.1 hi.2]; exact a1, a2, by rw [h3 i hi.1 hi.2]; exact a3, by rw [h4 i hi.1 hi.2]; exact a4, KN_c h1 h2 h3 h4 a5, KN_c h1 h2 h3 h4 a6, a7⟩
/-- the reference's island -/
def repT (M : zM) (t : zT) : Prop :=
  (M.1 0 = nI (t.1 0) ∧ M.1 3 = nI (t.1 1) ∧ M.1 4 = nI (t.1 3) ∧ M.1 9 = nI (t.1 5) ∧ M.1 10 = nI (t.1 4) ∧ M.1 11 = nI (t.1 2)) ∧
  (M.2 1 = t.2.1 ∧ M.2 2 = (fun j => nI (t.2.2.1 0 j)) ∧ M.2 3 = (fun j => nI (t.2.2.1 1 j)) ∧ M.2 4 = (fun j => nI (t.2.2.1 2 j)) ∧ M.2 5 = t.2.2.2.1 0 ∧ M.2 6 = t.2.2.2.1 1) ∧
  (∀ r, r < t.1 2 → ∃ i d, M.2 7 r = nI i ∧ KN (M.2 8) (M.2 9) (M.2 10) (M.2 11) (24 * r) d i (t.2.2.2.2 r))
/-- the image in its row -/
def repP (f : Nat → Int32) (t : zT) : Prop :=
  (f 0 = nI (t.1 0) ∧ f 1 = nI (t.1 1) ∧ f 2 = nI (t.1 3) ∧ f 3 = nI (t.1 5) ∧ f 4 = nI (t.1 4) ∧ f 5 = nI (t.1 2)) ∧
  (∀ k, k < 24 → f (6 + 2 * k) = t.2.1 k ∧ f (7 + 2 * k) = nI (t.2.2.1 0 k)) ∧
  (∀ p, p < 8 → f (54 + 4 * p) = nI (t.2.2.1 1 p) ∧ f (55 + 4 * p) = nI (t.2.2.1 2 p) ∧ f (56 + 4 * p) = t.2.2.2.1 0 p ∧ f (57 + 4 * p) = t.2.2.2.1 1 p) ∧
  (∀ r, r < t.1 2 → ∃ i d, f (86 + r) = nI i ∧ KN (fun k => f (96 + 4 * k)) (fun k => f (97 + 4 * k)) (fun k => f (98 + 4 * k)) (fun k => f (99 + 4 * k)) (24 * r) d i (t.2.2.2.2 r))
def repM (M : zM) (S : zF) : Prop :=
  repT M S.1 ∧ (match S.2.1 with
    | some t => repP (M.2 21) t ∧ M.1 39 = nI 1
    | none => M.1 39 = nI 0) ∧ (M.1 18 = nI S.2.2.1.1 ∧ S.2.2.1.1 ≤ 24 ∧ ∀ j, j < S.2.2.1.1 → M.2 12 j = S.2.2.1.2 j) ∧ M.2 13 = S.2.2.2
/-- nothing that lasts has changed -/
def sm0 (M M' : zM) : Prop := (∀ k, k < 19 ∨ k = 39 → M'.1 k = M.1 k) ∧ (∀ k, k < 14 ∨ k = 21 → M'.2 k = M.2 k)
theorem sm0_rf (M : zM) : sm0 M M := ⟨fun _ _ => rfl, fun _ _ => rfl⟩
theorem sm0_tr {M M' M'' : zM} (h : sm0 M M') (h' : sm0 M' M'') : sm0 M M'' := ⟨fun k hk => (h'.1 k hk).trans (h.1 k hk), fun k hk => (h'.2 k hk).trans (h.2 k hk)⟩
theorem sm0_N {M M' : zM} {k : Nat} {x : Int32} (h : sm0 M M') (h1 : 19 ≤ k) (h2 : k ≠ 39) : sm0 M (mN M' k x) := ⟨fun j hj => by
  show upd M'.1 k x j = _
  unfold upd
  rw [if_neg (by omega)]
  exact h.1 j hj, h.2⟩
theorem sm0_R {M M' : zM} {k : Nat} {f : Nat → Int32} (h : sm0 M M') (h1 : 14 ≤ k) (h2 : k ≠ 21) : sm0 M (mR M' k f) := ⟨h.1, fun j hj => by
  show (if j = k then f else M'.2 j) = _
  rw [if_neg (by omega)]
  exact h.2 j hj⟩
theorem repT_sm {M M' : zM} {t : zT} (h : repT M t) (e : sm0 M M') : repT M' t := by
  obtain ⟨⟨a0, a1, a2, a3, a4, a5⟩, ⟨b1, b2, b3, b4, b5, b6⟩, h3⟩ := h
  obtain ⟨e1, e2⟩ := e
  refine ⟨⟨?_, ?_, ?_, ?_, ?_, ?_⟩, ⟨?_, ?_, ?_, ?_, ?_, ?_⟩, ?_⟩
  · rw [e1 0 (by omega)]; exact a0
  · rw [e1 3 (by omega)]; exact a1
  · rw [e1 4 (by omega)]; exact a2
  · rw [e1 9 (by omega)]; exact a3
  · rw [e1 10 (by omega)]; exact a4
  · rw [e1 11 (by omega)]; exact a5
  · rw [e2 1 (by omega)]; exact b1
  · rw [e2 2 (by omega)]; exact b2
  · rw [e2 3 (by omega)]; exact b3
  · rw [e2 4 (by omega)]; exact b4
  · rw [e2 5 (by omega)]; exact b5
  · rw [e2 6 (by omega)]; exact b6
  · rw [e2 7 (by omega), e2 8 (by omega), e2 9 (by omega), e2 10 (by omega), e2 11 (by omega)]; exact h3
theorem repM_sm {M M' : zM} {S : zF} (h : repM M S) (e : sm0 M M') : repM M' S := by
  obtain ⟨h1, h2, h3, h4⟩ := h
  refine ⟨repT_sm h1 e, ?_, ?_, ?_⟩
  · rw [e.1 39 (by omega), e.2 21 (by omega)]; exact h2
  · rw [e.1 18 (by omega), e.2 12 (by omega)]; exact h3
  · rw [e.2 13 (by omega)]; exact h4
theorem repM_rf {M : zM} {S : zF} (h : repM M S) (k : Nat) : repM (mR M 13 (rfu (M.2 13) k)) (S.1, S.2.1, S.2.2.1, rfu S.2.2.2 k) := by
  obtain ⟨h1, h2, h3, h4⟩ := h
  refine ⟨h1, h2, h3, ?_⟩
  show rfu (M.2 13) k = rfu S.2.2.2 k
  rw [h4]
-- numbers
theorem in_isN {x : Int32} {W : Nat} (hW : W < 100) : decide (lN 0 ≤ x.toInt64 ∧ x.toInt64 ≤ (nI W - nI 1).toInt64) = isN x W := by
  have h0 : (0 : Int32).toInt = 0 := by decide
  have e0 : (lN 0 ≤ x.toInt64) ↔ ¬ x < 0 := by
    rw [Int64.le_iff_toInt_le, Int32.toInt_toInt64, Int32.lt_iff_toInt_lt, lN_toInt (by omega), h0]; omega
  have hw : (nI W - nI 1).toInt = (W : Int) - 1 := by
    rcases Nat.eq_zero_or_pos W with h | h
    · subst h; decide
    · rw [pk_sub h, nI_toInt (by omega)]; omega
  have e1 : (x.toInt64 ≤ (nI W - nI 1).toInt64) ↔ ¬ nI W ≤ x := by
    rw [Int64.le_iff_toInt_le, Int32.toInt_toInt64, Int32.toInt_toInt64, hw, Int32.le_iff_toInt_le, nI_toInt (by omega)]; omega
  unfold isN
  exact decide_eq_decide.mpr (and_congr e0 e1)
theorem in_lit {x : Int32} {a b : Nat} (ha : a < 1000) (hb : b < 1000) : (lN a ≤ x.toInt64 ∧ x.toInt64 ≤ lN b) ↔ (nI a ≤ x ∧ x ≤ nI b) := by
  rw [Int64.le_iff_toInt_le, Int64.le_iff_toInt_le, Int32.toInt_toInt64, lN_toInt (by omega), lN_toInt (by omega), Int32.le_iff_toInt_le, Int32.le_iff_toInt_le, nI_toInt (by omega), nI_toInt (by omega)]
theorem in_4 {x : Int32} : decide (lN 0 ≤ x.toInt64 ∧ x.toInt64 ≤ (3 : Int64)) = isN x 4 := by
  have := in_isN (x := x) (W := 4) (by omega)
  rw [← this]
  have e : (nI 4 - nI 1).toInt64 = (3 : Int64) := by decide +kernel
  rw [e]
-- the best seen: of several the least, as the walk goes up
theorem bsn_or {see : Nat → Bool} {br : Nat → Int32} {p : Nat} : ∀ k, bsn see br p k = p ∨ bsn see br p k < k
  | 0 => Or.inl rfl
  | k + 1 => by
    unfold bsn
    split
    · right; omega
    · rcases bsn_or (see := see) (br := br) (p := p) k with h | h
      · exact Or.inl h
      · right; omega
/-- the greatest seen, from p on -/
def nrm (see : Nat → Bool) (p : Nat) : Nat → Nat
  | 0 => p
  | k + 1 => if see k = true ∧ nrm see p k < k then k else nrm see p k
theorem nrm_lo {see : Nat → Bool} {p : Nat} : ∀ k, k ≤ p → nrm see p k = p
  | 0, _ => rfl
  | k + 1, h => by
    unfold nrm
    rw [nrm_lo k (by omega), if_neg (by omega)]
theorem nrl_b {see : Nat → Bool} {p : Nat} (hs : see p = true) : ∀ k, p < k → p ≤ nrl see p k ∧ nrl see p k < k
  | 0, h => absurd h (Nat.not_lt_zero _)
  | k + 1, h => by
    unfold nrl
    split
    · omega
    · rename_i hk
      by_cases hp : p = k
      · subst hp; exact absurd hs hk
      · have := nrl_b hs k (by omega)
        omega
theorem nrm_eq {see : Nat → Bool} {p : Nat} (hs : see p = true) : ∀ k, p < k → nrm see p k = nrl see p k
  | 0, h => absurd h (Nat.not_lt_zero _)
  | k + 1, h => by
    by_cases hp : p = k
    · subst hp
      unfold nrm nrl
      rw [nrm_lo p (Nat.le_refl _), if_neg (by omega), if_pos hs]
    · have h1 := nrm_eq hs k (by omega)
      have h2 := nrl_b hs k (by omega)
      unfold nrm nrl
      rw [h1]
      by_cases hk : see k = true
      · rw [if_pos ⟨hk, by omega⟩, if_pos hk]
      · rw [if_neg (fun z => hk z.1), if_neg hk]
theorem nrm_lt {see : Nat → Bool} {p n : Nat} (hp : p < n) : ∀ k, k ≤ n → nrm see p k < n
  | 0, _ => hp
  | k + 1, h => by unfold nrm; split <;> first | omega | exact nrm_lt hp k (by omega)
theorem see_self {sh y p : Nat} {bl : Nat → Bool} {se : Nat → Int32} : seeS sh bl se y p p = true := by
  unfold seeS
  rw [decide_eq_true rfl, Bool.true_or]
-- all alike
theorem cnt_all {f : Nat → Bool} : ∀ n, cnt f n = n ↔ allN f n = true
  | 0 => by simp [cnt, allN]
  | n + 1 => by
    have h := cnt_le f n
    have ih := cnt_all (f := f) n
    unfold cnt allN
    rw [Bool.and_eq_true]
    by_cases hf : f n = true
    · rw [if_pos hf]
      constructor
      · exact fun q => ⟨ih.mp (by omega), hf⟩
      · exact fun q => by have := ih.mpr q.1; omega
    · rw [if_neg hf]
      constructor
      · exact fun q => by omega
      · exact fun q => absurd q.2 hf
theorem alk_all {n : Nat} {v : Nat → Nat} : alk n v = allN (fun p => decide (v p = v 0)) n := by
  unfold alk
  by_cases h : cnt (fun p => decide (v p = v 0)) n = n
  · rw [decide_eq_true h, (cnt_all n).mp h]
  · rw [decide_eq_false h]
    cases hb : allN (fun p => decide (v p = v 0)) n with
    | false => rfl
    | true => exact absurd ((cnt_all n).mpr hb) h
theorem alk_c {n : Nat} {v w : Nat → Nat} (h : ∀ p, p < n → v p = w p) : alk n v = alk n w := by
  rcases Nat.eq_zero_or_pos n with h0 | h0
  · subst h0; rfl
  · unfold alk
    rw [h 0 h0, cnt_congr n (fun o ho => by rw [h o ho])]
-- sums
theorem sm_add (f g : Nat → Int32) : ∀ n, sm (fun p => f p + g p) n = sm f n + sm g n
  | 0 => by show (0 : Int32) = 0 + 0; decide
  | n + 1 => by
    show sm (fun p => f p + g p) n + (f n + g n) = (sm f n + f n) + (sm g n + g n)
    rw [sm_add f g n, Int32.add_assoc, Int32.add_assoc]
    congr 1
    rw [← Int32.add_assoc, ← Int32.add_assoc, Int32.add_comm (sm g n) (f n)]
theorem sm_c {f g : Nat → Int32} : ∀ n, (∀ p, p < n → f p = g p) → sm f n = sm g n
  | 0, _ => rfl
  | n + 1, h => by
    show sm f n + f n = sm g n + g n
    rw [sm_c n (fun p hp => h p (by omega)), h n (by omega)]
theorem sm_tot {n : Nat} {b : Nat → Int32} {vv : Nat → Nat → Nat} {tw : Nat → Nat} {t0 : Nat → Int32} (i : Nat) : sm (tot n b vv tw t0 (i + 1)) n = sm (tot n b vv tw t0 i) n + sm (fun p => b (vv i p * 4 + tw i)) n := by
  rw [← sm_add]
  exact sm_c n (fun p hp => mix_lt hp)
-- what comes first
theorem fnd_snoc (f : Nat → Bool) : ∀ c k, fnd f (c + 1) k = match fnd f c k with
    | some j => some j
    | none => if f (k + c) = true then some (k + c) else none
  | 0, k => rfl
  | c + 1, k => by
    have ih := fnd_snoc f c (k + 1)
    unfold fnd
    by_cases h : f k = true
    · rw [if_pos h, if_pos h]
    · rw [if_neg h, if_neg h, ih, show k + 1 + c = k + (c + 1) by omega]
theorem fndI_neg {x : Option Nat} (h : ∀ j, x = some j → j < 1000) : (fndI x < 0) ↔ x = none := by
  cases x with
  | none => exact ⟨fun _ => rfl, fun _ => by show zi (-9) < 0; decide⟩
  | some j => exact ⟨fun q => absurd q (nI_pos (by have := h j rfl; omega)), fun q => by cases q⟩
theorem fnd_lt {f : Nat → Bool} : ∀ {c k j : Nat}, fnd f c k = some j → j < k + c
  | 0, k, j, h => by simp [fnd] at h
  | c + 1, k, j, h => by
    unfold fnd at h
    split at h
    · cases h; omega
    · have := fnd_lt h; omega
theorem fndI_snoc (f : Nat → Bool) {i : Nat} (hi : i < 900) : fndI (fnd f (i + 1) 0) = if fndI (fnd f i 0) < 0 ∧ f i = true then nI i else fndI (fnd f i 0) := by
  have hlt : ∀ j, fnd f i 0 = some j → j < 1000 := fun j hj => by have := fnd_lt hj; omega
  rw [fnd_snoc, Nat.zero_add]
  revert hlt
  generalize fnd f i 0 = x
  intro hlt
  have hn := fndI_neg hlt
  cases x with
  | some j =>
    have h1 : ¬ (fndI (some j) < 0 ∧ f i = true) := fun z => by have := hn.mp z.1; cases this
    rw [if_neg h1]
  | none =>
    have hm : fndI none < 0 := hn.mpr rfl
    show fndI (if f i = true then some i else none) = _
    by_cases hf : f i = true
    · have h1 : fndI none < 0 ∧ f i = true := ⟨hm, hf⟩
      rw [if_pos h1, if_pos hf]; rfl
    · have h1 : ¬ (fndI none < 0 ∧ f i = true) := fun z => hf z.2
      rw [if_neg h1, if_neg hf]
