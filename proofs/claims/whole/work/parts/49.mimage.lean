/-! the reference's image -/
theorem mix_self {n : Nat} {g f : Nat → Int32} (h : ∀ j, j < n → g j = f j) : mix n g f = f := by
  funext j
  unfold mix
  split
  · exact h j (by assumption)
  · rfl
section MI
variable {l : Launch} {D : va_G} {C : zC} {M : zM} {S : zF} {c : Nat}
set_option maxRecDepth 10000 in
theorem m_carry {k : Nat} {W f0 : Nat → Int32} {b : Bool} {v : Int32} (hk : k < 1100) (e41 : M.1 41 = nI k) (e42 : M.1 42 = zB b) (e21 : M.2 21 = mix k W f0) (h1 : b = true → v = W k) (h0 : b = false → f0 k = W k) : zFun l D C yX4_carry cX4_carry 2 (some .int) (zR 0) [.ref 0, .int v] (mdW 0 M) (fun w rv => w = mdW 0 (mN (mR M 21 (mix (k + 1) W f0)) 41 (nI (k + 1))) ∧ rv = some (.int (W k))) := by
  refine zFun_of (by decide) oX4_carry tbX4 (Nat.le_of_ble_eq_true rfl) (fun Z o => ?_)
  have ei : M.1 41 + nI 1 - nI 1 = nI k := by rw [e41, ad_sb]
  cases b with
  | true =>
    have e : upd (M.2 21) k v = mix (k + 1) W f0 := by rw [e21, h1 rfl, mix_upd]
    refine o.run 100 [] ⟨fun q => absurd (show M.1 42 = 0 from q) (by rw [e42]; decide), fun _ => ⟨k, e41, hk, k, ei, hk, ⟨_, rfl, rfl⟩, rfl, ?_, ?_⟩⟩
    · show mdW 0 (mN (mR M 21 (upd (M.2 21) k v)) 41 (M.1 41 + nI 1)) = _
      rw [e, e41, nI_add]
    · show some (Value.int (upd (M.2 21) k v k)) = _
      rw [e, mix_lt (Nat.lt_succ_self k)]
  | false =>
    have e : mix (k + 1) W f0 = M.2 21 := by
      rw [e21]
      funext j
      unfold mix
      by_cases h2 : j < k
      · rw [if_pos h2, if_pos (by omega)]
      · rw [if_neg h2]
        split
        · obtain rfl : j = k := by omega
          exact (h0 rfl).symm
        · rfl
    refine o.run 100 [] ⟨fun _ => ⟨k, ei, hk, ⟨_, rfl, rfl⟩, rfl, ?_, ?_⟩, fun q => absurd (show M.1 42 = 0 by rw [e42]; decide) q⟩
    · show mdW 0 (mN M 41 (M.1 41 + nI 1)) = _
      rw [e, e41, nI_add]; rfl
    · show some (Value.int (M.2 21 k)) = _
      rw [← e, mix_lt (Nat.lt_succ_self k)]
/-- the numbers carried -/
def cNm (M : zM) (W : Nat → Int32) : zM := (mN (mN (mN (mN (mN (mN M 0 (W 0)) 3 (W 1)) 4 (W 2)) 9 (W 3)) 10 (W 4)) 11 (W 5))
/-- rows carried: c1 of what ways bring and the sky, c2 of people, c3 of roots, c4 of knots; a in all -/
def cRw (M : zM) (W f0 : Nat → Int32) (c1 c2 c3 c4 a : Nat) : zM := mN (mR (mR (mR (mR (mR (mR (mR (mR (mR (mR (mR (mR (cNm M W) 1 (mix c1 (fun j => W (6 + 2 * j)) (M.2 1))) 2 (mix c1 (fun j => W (6 + 2 * j + 1)) (M.2 2))) 3 (mix c2 (fun j => W (54 + 4 * j)) (M.2 3))) 4 (mix c2 (fun j => W (54 + 4 * j + 1)) (M.2 4))) 5 (mix c2 (fun j => W (54 + 4 * j + 2)) (M.2 5))) 6 (mix c2 (fun j => W (54 + 4 * j + 3)) (M.2 6))) 7 (mix c3 (fun j => W (86 + j)) (M.2 7))) 8 (mix c4 (fun j => W (96 + 4 * j)) (M.2 8))) 9 (mix c4 (fun j => W (96 + 4 * j + 1)) (M.2 9))) 10 (mix c4 (fun j => W (96 + 4 * j + 2)) (M.2 10))) 11 (mix c4 (fun j => W (96 + 4 * j + 3)) (M.2 11))) 21 (mix a W f0)) 41 (nI a)
/-- what is carried: out of the fields, or out of the image -/
def cHy (M : zM) (W f0 : Nat → Int32) (b : Bool) : Prop := (b = true → (M.1 0 = W 0 ∧ M.1 3 = W 1 ∧ M.1 4 = W 2 ∧ M.1 9 = W 3 ∧ M.1 10 = W 4 ∧ M.1 11 = W 5) ∧ (∀ j, j < 24 → M.2 1 j = W (6 + 2 * j) ∧ M.2 2 j = W (6 + 2 * j + 1)) ∧ (∀ j, j < 8 → M.2 3 j = W (54 + 4 * j) ∧ M.2 4 j = W (54 + 4 * j + 1) ∧ M.2 5 j = W (54 + 4 * j + 2) ∧ M.2 6 j = W (54 + 4 * j + 3)) ∧ (∀ j, j < 10 → M.2 7 j = W (86 + j)) ∧ (∀ j, j < 240 → M.2 8 j = W (96 + 4 * j) ∧ M.2 9 j = W (96 + 4 * j + 1) ∧ M.2 10 j = W (96 + 4 * j + 2) ∧ M.2 11 j = W (96 + 4 * j + 3))) ∧ (b = false → ∀ k, k < 1056 → f0 k = W k)
set_option maxRecDepth 10000 in
set_option maxHeartbeats 2000000 in
theorem m_carryAll {W f0 : Nat → Int32} {b : Bool} (hM : cHy M W f0 b) (e42 : M.1 42 = zB b) (e21 : M.2 21 = f0) : zFun l D C yX4_carryAll cX4_carryAll 2 none (zR 1) [.ref 0] (mdW 0 M) (fun w rv => w = mdW 0 (cRw M W f0 24 8 10 240 1056) ∧ rv = none) := by
  obtain ⟨HT, HF⟩ := hM
  refine zFun_of (by decide) oX4_carryAll tbX4 (Nat.le_of_ble_eq_true rfl) (fun Z o => ?_)
  have lp4 : ∀ j k, k + j = 240 → Z 233 (mdW 0 (cRw M W f0 24 8 10 k (96 + 4 * k))) [some (.ref 0), some (.int (nI k))] [] := by
    intro j
    induction j with
    | zero =>
      intro k hk
      obtain rfl : k = 240 := by omega
      exact o.run 100 [] ⟨fun _ => ⟨rfl, rfl, rfl, rfl⟩, fun q => absurd (nI_le (Nat.le_refl 240) (by omega)) q⟩
    | succ j ih =>
      intro k hk
      refine o.run 100 [] ⟨fun q => absurd (show nI 240 ≤ nI k from q) (nI_ge (by omega) (by omega)), fun _ => ⟨k, rfl, by omega, ?_⟩⟩
      show Z 252 (mdW 0 (cRw M W f0 24 8 10 k (96 + 4 * k))) [some (.ref 0), some (.int (nI k))] [.int (mix k (fun j => W (96 + 4 * j)) (M.2 8) k), .ref 0, .int (nI k), .ref 8]
      refine o.cV (rest := [.int (nI k), .ref 8]) vX4_247 (m_carry (M := (cRw M W f0 24 8 10 k (96 + 4 * k))) (k := 96 + 4 * k) (W := W) (f0 := f0) (b := b) (by omega) rfl e42 rfl (fun hb => (mix_ge (Nat.le_refl k)).trans (((HT hb).2.2.2.2 k (by omega)).1)) (fun hb => HF hb _ (by omega))) (fun w' rv _ hpo => ?_)
      obtain ⟨rfl, rfl⟩ := hpo
      refine o.run 100 [] ⟨k, rfl, by omega, k, rfl, by omega, ?_⟩
      show Z 268 (mdW 0 (mR (mN (mR (cRw M W f0 24 8 10 k (96 + 4 * k)) 21 (mix (96 + 4 * k + 1) W f0)) 41 (nI (96 + 4 * k + 1))) 8 (upd (mix k (fun j => W (96 + 4 * j)) (M.2 8)) k (W (96 + 4 * k))))) [some (.ref 0), some (.int (nI k))] [.int (mix k (fun j => W (96 + 4 * j + 1)) (M.2 9) k), .ref 0, .int (nI k), .ref 9]
      refine o.cV (rest := [.int (nI k), .ref 9]) vX4_247 (m_carry (M := (mR (mN (mR (cRw M W f0 24 8 10 k (96 + 4 * k)) 21 (mix (96 + 4 * k + 1) W f0)) 41 (nI (96 + 4 * k + 1))) 8 (upd (mix k (fun j => W (96 + 4 * j)) (M.2 8)) k (W (96 + 4 * k))))) (k := 96 + 4 * k + 1) (W := W) (f0 := f0) (b := b) (by omega) rfl e42 rfl (fun hb => (mix_ge (Nat.le_refl k)).trans (((HT hb).2.2.2.2 k (by omega)).2.1)) (fun hb => HF hb _ (by omega))) (fun w' rv _ hpo => ?_)
      obtain ⟨rfl, rfl⟩ := hpo
      refine o.run 100 [] ⟨k, rfl, by omega, k, rfl, by omega, ?_⟩
      show Z 284 (mdW 0 (mR (mN (mR (mR (mN (mR (cRw M W f0 24 8 10 k (96 + 4 * k)) 21 (mix (96 + 4 * k + 1) W f0)) 41 (nI (96 + 4 * k + 1))) 8 (upd (mix k (fun j => W (96 + 4 * j)) (M.2 8)) k (W (96 + 4 * k)))) 21 (mix (96 + 4 * k + 1 + 1) W f0)) 41 (nI (96 + 4 * k + 1 + 1))) 9 (upd (mix k (fun j => W (96 + 4 * j + 1)) (M.2 9)) k (W (96 + 4 * k + 1))))) [some (.ref 0), some (.int (nI k))] [.int (mix k (fun j => W (96 + 4 * j + 2)) (M.2 10) k), .ref 0, .int (nI k), .ref 10]
      refine o.cV (rest := [.int (nI k), .ref 10]) vX4_247 (m_carry (M := (mR (mN (mR (mR (mN (mR (cRw M W f0 24 8 10 k (96 + 4 * k)) 21 (mix (96 + 4 * k + 1) W f0)) 41 (nI (96 + 4 * k + 1))) 8 (upd (mix k (fun j => W (96 + 4 * j)) (M.2 8)) k (W (96 + 4 * k)))) 21 (mix (96 + 4 * k + 1 + 1) W f0)) 41 (nI (96 + 4 * k + 1 + 1))) 9 (upd (mix k (fun j => W (96 + 4 * j + 1)) (M.2 9)) k (W (96 + 4 * k + 1))))) (k := 96 + 4 * k + 2) (W := W) (f0 := f0) (b := b) (by omega) rfl e42 rfl (fun hb => (mix_ge (Nat.le_refl k)).trans (((HT hb).2.2.2.2 k (by omega)).2.2.1)) (fun hb => HF hb _ (by omega))) (fun w' rv _ hpo => ?_)
      obtain ⟨rfl, rfl⟩ := hpo
      refine o.run 100 [] ⟨k, rfl, by omega, k, rfl, by omega, ?_⟩
      show Z 300 (mdW 0 (mR (mN (mR (mR (mN (mR (mR (mN (mR (cRw M W f0 24 8 10 k (96 + 4 * k)) 21 (mix (96 + 4 * k + 1) W f0)) 41 (nI (96 + 4 * k + 1))) 8 (upd (mix k (fun j => W (96 + 4 * j)) (M.2 8)) k (W (96 + 4 * k)))) 21 (mix (96 + 4 * k + 1 + 1) W f0)) 41 (nI (96 + 4 * k + 1 + 1))) 9 (upd (mix k (fun j => W (96 + 4 * j + 1)) (M.2 9)) k (W (96 + 4 * k + 1)))) 21 (mix (96 + 4 * k + 2 + 1) W f0)) 41 (nI (96 + 4 * k + 2 + 1))) 10 (upd (mix k (fun j => W (96 + 4 * j + 2)) (M.2 10)) k (W (96 + 4 * k + 2))))) [some (.ref 0), some (.int (nI k))] [.int (mix k (fun j => W (96 + 4 * j + 3)) (M.2 11) k), .ref 0, .int (nI k), .ref 11]
      refine o.cV (rest := [.int (nI k), .ref 11]) vX4_247 (m_carry (M := (mR (mN (mR (mR (mN (mR (mR (mN (mR (cRw M W f0 24 8 10 k (96 + 4 * k)) 21 (mix (96 + 4 * k + 1) W f0)) 41 (nI (96 + 4 * k + 1))) 8 (upd (mix k (fun j => W (96 + 4 * j)) (M.2 8)) k (W (96 + 4 * k)))) 21 (mix (96 + 4 * k + 1 + 1) W f0)) 41 (nI (96 + 4 * k + 1 + 1))) 9 (upd (mix k (fun j => W (96 + 4 * j + 1)) (M.2 9)) k (W (96 + 4 * k + 1)))) 21 (mix (96 + 4 * k + 2 + 1) W f0)) 41 (nI (96 + 4 * k + 2 + 1))) 10 (upd (mix k (fun j => W (96 + 4 * j + 2)) (M.2 10)) k (W (96 + 4 * k + 2))))) (k := 96 + 4 * k + 3) (W := W) (f0 := f0) (b := b) (by omega) rfl e42 rfl (fun hb => (mix_ge (Nat.le_refl k)).trans (((HT hb).2.2.2.2 k (by omega)).2.2.2)) (fun hb => HF hb _ (by omega))) (fun w' rv _ hpo => ?_)
      obtain ⟨rfl, rfl⟩ := hpo
      refine o.run 100 [233] ⟨k, rfl, by omega, ?_⟩
      have := ih (k + 1) (by omega)
      unfold cRw at this ⊢
      rw [show 96 + 4 * (k + 1) = 96 + 4 * k + 3 + 1 by omega] at this
      rw [← mix_upd k (fun j => W (96 + 4 * j)) (M.2 8)] at this
      rw [← mix_upd k (fun j => W (96 + 4 * j + 1)) (M.2 9)] at this
      rw [← mix_upd k (fun j => W (96 + 4 * j + 2)) (M.2 10)] at this
      rw [← mix_upd k (fun j => W (96 + 4 * j + 3)) (M.2 11)] at this
      rw [← nI_1 k] at this
      exact this
  have lp3 : ∀ j k, k + j = 10 → Z 203 (mdW 0 (cRw M W f0 24 8 k 0 (86 + k))) [some (.ref 0), some (.int (nI k))] [] := by
    intro j
    induction j with
    | zero =>
      intro k hk
      obtain rfl : k = 10 := by omega
      exact o.run 100 [233] ⟨fun _ => lp4 240 0 (by omega), fun q => absurd (nI_le (Nat.le_refl 10) (by omega)) q⟩
    | succ j ih =>
      intro k hk
      refine o.run 100 [] ⟨fun q => absurd (show nI 10 ≤ nI k from q) (nI_ge (by omega) (by omega)), fun _ => ⟨k, rfl, by omega, ?_⟩⟩
      show Z 221 (mdW 0 (cRw M W f0 24 8 k 0 (86 + k))) [some (.ref 0), some (.int (nI k))] [.int (mix k (fun j => W (86 + j)) (M.2 7) k), .ref 0, .int (nI k), .ref 7]
      refine o.cV (rest := [.int (nI k), .ref 7]) vX4_247 (m_carry (M := (cRw M W f0 24 8 k 0 (86 + k))) (k := 86 + k) (W := W) (f0 := f0) (b := b) (by omega) rfl e42 rfl (fun hb => (mix_ge (Nat.le_refl k)).trans ((HT hb).2.2.2.1 k (by omega))) (fun hb => HF hb _ (by omega))) (fun w' rv _ hpo => ?_)
      obtain ⟨rfl, rfl⟩ := hpo
      refine o.run 100 [203] ⟨k, rfl, by omega, ?_⟩
      have := ih (k + 1) (by omega)
      unfold cRw at this ⊢
      rw [show 86 + (k + 1) = 86 + k + 1 by omega] at this
      rw [← mix_upd k (fun j => W (86 + j)) (M.2 7)] at this
      rw [← nI_1 k] at this
      exact this
  have lp2 : ∀ j k, k + j = 8 → Z 125 (mdW 0 (cRw M W f0 24 k 0 0 (54 + 4 * k))) [some (.ref 0), some (.int (nI k))] [] := by
    intro j
    induction j with
    | zero =>
      intro k hk
      obtain rfl : k = 8 := by omega
      exact o.run 100 [203] ⟨fun _ => lp3 10 0 (by omega), fun q => absurd (nI_le (Nat.le_refl 8) (by omega)) q⟩
    | succ j ih =>
      intro k hk
      refine o.run 100 [] ⟨fun q => absurd (show nI 8 ≤ nI k from q) (nI_ge (by omega) (by omega)), fun _ => ⟨k, rfl, by omega, ?_⟩⟩
      show Z 143 (mdW 0 (cRw M W f0 24 k 0 0 (54 + 4 * k))) [some (.ref 0), some (.int (nI k))] [.int (mix k (fun j => W (54 + 4 * j)) (M.2 3) k), .ref 0, .int (nI k), .ref 3]
      refine o.cV (rest := [.int (nI k), .ref 3]) vX4_247 (m_carry (M := (cRw M W f0 24 k 0 0 (54 + 4 * k))) (k := 54 + 4 * k) (W := W) (f0 := f0) (b := b) (by omega) rfl e42 rfl (fun hb => (mix_ge (Nat.le_refl k)).trans (((HT hb).2.2.1 k (by omega)).1)) (fun hb => HF hb _ (by omega))) (fun w' rv _ hpo => ?_)
      obtain ⟨rfl, rfl⟩ := hpo
      refine o.run 100 [] ⟨k, rfl, by omega, k, rfl, by omega, ?_⟩
      show Z 159 (mdW 0 (mR (mN (mR (cRw M W f0 24 k 0 0 (54 + 4 * k)) 21 (mix (54 + 4 * k + 1) W f0)) 41 (nI (54 + 4 * k + 1))) 3 (upd (mix k (fun j => W (54 + 4 * j)) (M.2 3)) k (W (54 + 4 * k))))) [some (.ref 0), some (.int (nI k))] [.int (mix k (fun j => W (54 + 4 * j + 1)) (M.2 4) k), .ref 0, .int (nI k), .ref 4]
      refine o.cV (rest := [.int (nI k), .ref 4]) vX4_247 (m_carry (M := (mR (mN (mR (cRw M W f0 24 k 0 0 (54 + 4 * k)) 21 (mix (54 + 4 * k + 1) W f0)) 41 (nI (54 + 4 * k + 1))) 3 (upd (mix k (fun j => W (54 + 4 * j)) (M.2 3)) k (W (54 + 4 * k))))) (k := 54 + 4 * k + 1) (W := W) (f0 := f0) (b := b) (by omega) rfl e42 rfl (fun hb => (mix_ge (Nat.le_refl k)).trans (((HT hb).2.2.1 k (by omega)).2.1)) (fun hb => HF hb _ (by omega))) (fun w' rv _ hpo => ?_)
      obtain ⟨rfl, rfl⟩ := hpo
      refine o.run 100 [] ⟨k, rfl, by omega, k, rfl, by omega, ?_⟩
      show Z 175 (mdW 0 (mR (mN (mR (mR (mN (mR (cRw M W f0 24 k 0 0 (54 + 4 * k)) 21 (mix (54 + 4 * k + 1) W f0)) 41 (nI (54 + 4 * k + 1))) 3 (upd (mix k (fun j => W (54 + 4 * j)) (M.2 3)) k (W (54 + 4 * k)))) 21 (mix (54 + 4 * k + 1 + 1) W f0)) 41 (nI (54 + 4 * k + 1 + 1))) 4 (upd (mix k (fun j => W (54 + 4 * j + 1)) (M.2 4)) k (W (54 + 4 * k + 1))))) [some (.ref 0), some (.int (nI k))] [.int (mix k (fun j => W (54 + 4 * j + 2)) (M.2 5) k), .ref 0, .int (nI k), .ref 5]
      refine o.cV (rest := [.int (nI k), .ref 5]) vX4_247 (m_carry (M := (mR (mN (mR (mR (mN (mR (cRw M W f0 24 k 0 0 (54 + 4 * k)) 21 (mix (54 + 4 * k + 1) W f0)) 41 (nI (54 + 4 * k + 1))) 3 (upd (mix k (fun j => W (54 + 4 * j)) (M.2 3)) k (W (54 + 4 * k)))) 21 (mix (54 + 4 * k + 1 + 1) W f0)) 41 (nI (54 + 4 * k + 1 + 1))) 4 (upd (mix k (fun j => W (54 + 4 * j + 1)) (M.2 4)) k (W (54 + 4 * k + 1))))) (k := 54 + 4 * k + 2) (W := W) (f0 := f0) (b := b) (by omega) rfl e42 rfl (fun hb => (mix_ge (Nat.le_refl k)).trans (((HT hb).2.2.1 k (by omega)).2.2.1)) (fun hb => HF hb _ (by omega))) (fun w' rv _ hpo => ?_)
      obtain ⟨rfl, rfl⟩ := hpo
      refine o.run 100 [] ⟨k, rfl, by omega, k, rfl, by omega, ?_⟩
      show Z 191 (mdW 0 (mR (mN (mR (mR (mN (mR (mR (mN (mR (cRw M W f0 24 k 0 0 (54 + 4 * k)) 21 (mix (54 + 4 * k + 1) W f0)) 41 (nI (54 + 4 * k + 1))) 3 (upd (mix k (fun j => W (54 + 4 * j)) (M.2 3)) k (W (54 + 4 * k)))) 21 (mix (54 + 4 * k + 1 + 1) W f0)) 41 (nI (54 + 4 * k + 1 + 1))) 4 (upd (mix k (fun j => W (54 + 4 * j + 1)) (M.2 4)) k (W (54 + 4 * k + 1)))) 21 (mix (54 + 4 * k + 2 + 1) W f0)) 41 (nI (54 + 4 * k + 2 + 1))) 5 (upd (mix k (fun j => W (54 + 4 * j + 2)) (M.2 5)) k (W (54 + 4 * k + 2))))) [some (.ref 0), some (.int (nI k))] [.int (mix k (fun j => W (54 + 4 * j + 3)) (M.2 6) k), .ref 0, .int (nI k), .ref 6]
      refine o.cV (rest := [.int (nI k), .ref 6]) vX4_247 (m_carry (M := (mR (mN (mR (mR (mN (mR (mR (mN (mR (cRw M W f0 24 k 0 0 (54 + 4 * k)) 21 (mix (54 + 4 * k + 1) W f0)) 41 (nI (54 + 4 * k + 1))) 3 (upd (mix k (fun j => W (54 + 4 * j)) (M.2 3)) k (W (54 + 4 * k)))) 21 (mix (54 + 4 * k + 1 + 1) W f0)) 41 (nI (54 + 4 * k + 1 + 1))) 4 (upd (mix k (fun j => W (54 + 4 * j + 1)) (M.2 4)) k (W (54 + 4 * k + 1)))) 21 (mix (54 + 4 * k + 2 + 1) W f0)) 41 (nI (54 + 4 * k + 2 + 1))) 5 (upd (mix k (fun j => W (54 + 4 * j + 2)) (M.2 5)) k (W (54 + 4 * k + 2))))) (k := 54 + 4 * k + 3) (W := W) (f0 := f0) (b := b) (by omega) rfl e42 rfl (fun hb => (mix_ge (Nat.le_refl k)).trans (((HT hb).2.2.1 k (by omega)).2.2.2)) (fun hb => HF hb _ (by omega))) (fun w' rv _ hpo => ?_)
      obtain ⟨rfl, rfl⟩ := hpo
      refine o.run 100 [125] ⟨k, rfl, by omega, ?_⟩
      have := ih (k + 1) (by omega)
      unfold cRw at this ⊢
      rw [show 54 + 4 * (k + 1) = 54 + 4 * k + 3 + 1 by omega] at this
      rw [← mix_upd k (fun j => W (54 + 4 * j)) (M.2 3)] at this
      rw [← mix_upd k (fun j => W (54 + 4 * j + 1)) (M.2 4)] at this
      rw [← mix_upd k (fun j => W (54 + 4 * j + 2)) (M.2 5)] at this
      rw [← mix_upd k (fun j => W (54 + 4 * j + 3)) (M.2 6)] at this
      rw [← nI_1 k] at this
      exact this
  have lp1 : ∀ j k, k + j = 24 → Z 79 (mdW 0 (cRw M W f0 k 0 0 0 (6 + 2 * k))) [some (.ref 0), some (.int (nI k))] [] := by
    intro j
    induction j with
    | zero =>
      intro k hk
      obtain rfl : k = 24 := by omega
      exact o.run 100 [125] ⟨fun _ => lp2 8 0 (by omega), fun q => absurd (nI_le (Nat.le_refl 24) (by omega)) q⟩
    | succ j ih =>
      intro k hk
      refine o.run 100 [] ⟨fun q => absurd (show nI 24 ≤ nI k from q) (nI_ge (by omega) (by omega)), fun _ => ⟨k, rfl, by omega, ?_⟩⟩
      show Z 97 (mdW 0 (cRw M W f0 k 0 0 0 (6 + 2 * k))) [some (.ref 0), some (.int (nI k))] [.int (mix k (fun j => W (6 + 2 * j)) (M.2 1) k), .ref 0, .int (nI k), .ref 1]
      refine o.cV (rest := [.int (nI k), .ref 1]) vX4_247 (m_carry (M := (cRw M W f0 k 0 0 0 (6 + 2 * k))) (k := 6 + 2 * k) (W := W) (f0 := f0) (b := b) (by omega) rfl e42 rfl (fun hb => (mix_ge (Nat.le_refl k)).trans (((HT hb).2.1 k (by omega)).1)) (fun hb => HF hb _ (by omega))) (fun w' rv _ hpo => ?_)
      obtain ⟨rfl, rfl⟩ := hpo
      refine o.run 100 [] ⟨k, rfl, by omega, k, rfl, by omega, ?_⟩
      show Z 113 (mdW 0 (mR (mN (mR (cRw M W f0 k 0 0 0 (6 + 2 * k)) 21 (mix (6 + 2 * k + 1) W f0)) 41 (nI (6 + 2 * k + 1))) 1 (upd (mix k (fun j => W (6 + 2 * j)) (M.2 1)) k (W (6 + 2 * k))))) [some (.ref 0), some (.int (nI k))] [.int (mix k (fun j => W (6 + 2 * j + 1)) (M.2 2) k), .ref 0, .int (nI k), .ref 2]
      refine o.cV (rest := [.int (nI k), .ref 2]) vX4_247 (m_carry (M := (mR (mN (mR (cRw M W f0 k 0 0 0 (6 + 2 * k)) 21 (mix (6 + 2 * k + 1) W f0)) 41 (nI (6 + 2 * k + 1))) 1 (upd (mix k (fun j => W (6 + 2 * j)) (M.2 1)) k (W (6 + 2 * k))))) (k := 6 + 2 * k + 1) (W := W) (f0 := f0) (b := b) (by omega) rfl e42 rfl (fun hb => (mix_ge (Nat.le_refl k)).trans (((HT hb).2.1 k (by omega)).2)) (fun hb => HF hb _ (by omega))) (fun w' rv _ hpo => ?_)
      obtain ⟨rfl, rfl⟩ := hpo
      refine o.run 100 [79] ⟨k, rfl, by omega, ?_⟩
      have := ih (k + 1) (by omega)
      unfold cRw at this ⊢
      rw [show 6 + 2 * (k + 1) = 6 + 2 * k + 1 + 1 by omega] at this
      rw [← mix_upd k (fun j => W (6 + 2 * j)) (M.2 1)] at this
      rw [← mix_upd k (fun j => W (6 + 2 * j + 1)) (M.2 2)] at this
      rw [← nI_1 k] at this
      exact this
  refine o.run 100 [] ?_
  show Z 11 (mdW 0 (mN (mR M 21 (M.2 21)) 41 (nI 0))) [some (.ref 0), none] [.int (M.1 0), .ref 0, .ref 0]
  rw [show M.2 21 = mix 0 W f0 by rw [mix_0]; exact e21]
  refine o.cV (rest := [.ref 0]) vX4_247 (m_carry (M := (mN (mR M 21 (mix 0 W f0)) 41 (nI 0))) (k := 0) (W := W) (f0 := f0) (b := b) (by omega) rfl e42 rfl (fun hb => (HT hb).1.1) (fun hb => HF hb _ (by omega))) (fun w' rv _ hpo => ?_)
  obtain ⟨rfl, rfl⟩ := hpo
  refine o.run 100 [] ?_
  show Z 23 (mdW 0 (mN (mR (mN M 0 (W 0)) 21 (mix 1 W f0)) 41 (nI 1))) [some (.ref 0), none] [.int (M.1 3), .ref 0, .ref 0]
  refine o.cV (rest := [.ref 0]) vX4_247 (m_carry (M := (mN (mR (mN M 0 (W 0)) 21 (mix 1 W f0)) 41 (nI 1))) (k := 1) (W := W) (f0 := f0) (b := b) (by omega) rfl e42 rfl (fun hb => (HT hb).1.2.1) (fun hb => HF hb _ (by omega))) (fun w' rv _ hpo => ?_)
  obtain ⟨rfl, rfl⟩ := hpo
  refine o.run 100 [] ?_
  show Z 35 (mdW 0 (mN (mR (mN (mN M 0 (W 0)) 3 (W 1)) 21 (mix 2 W f0)) 41 (nI 2))) [some (.ref 0), none] [.int (M.1 4), .ref 0, .ref 0]
  refine o.cV (rest := [.ref 0]) vX4_247 (m_carry (M := (mN (mR (mN (mN M 0 (W 0)) 3 (W 1)) 21 (mix 2 W f0)) 41 (nI 2))) (k := 2) (W := W) (f0 := f0) (b := b) (by omega) rfl e42 rfl (fun hb => (HT hb).1.2.2.1) (fun hb => HF hb _ (by omega))) (fun w' rv _ hpo => ?_)
  obtain ⟨rfl, rfl⟩ := hpo
  refine o.run 100 [] ?_
  show Z 47 (mdW 0 (mN (mR (mN (mN (mN M 0 (W 0)) 3 (W 1)) 4 (W 2)) 21 (mix 3 W f0)) 41 (nI 3))) [some (.ref 0), none] [.int (M.1 9), .ref 0, .ref 0]
  refine o.cV (rest := [.ref 0]) vX4_247 (m_carry (M := (mN (mR (mN (mN (mN M 0 (W 0)) 3 (W 1)) 4 (W 2)) 21 (mix 3 W f0)) 41 (nI 3))) (k := 3) (W := W) (f0 := f0) (b := b) (by omega) rfl e42 rfl (fun hb => (HT hb).1.2.2.2.1) (fun hb => HF hb _ (by omega))) (fun w' rv _ hpo => ?_)
  obtain ⟨rfl, rfl⟩ := hpo
  refine o.run 100 [] ?_
  show Z 59 (mdW 0 (mN (mR (mN (mN (mN (mN M 0 (W 0)) 3 (W 1)) 4 (W 2)) 9 (W 3)) 21 (mix 4 W f0)) 41 (nI 4))) [some (.ref 0), none] [.int (M.1 10), .ref 0, .ref 0]
  refine o.cV (rest := [.ref 0]) vX4_247 (m_carry (M := (mN (mR (mN (mN (mN (mN M 0 (W 0)) 3 (W 1)) 4 (W 2)) 9 (W 3)) 21 (mix 4 W f0)) 41 (nI 4))) (k := 4) (W := W) (f0 := f0) (b := b) (by omega) rfl e42 rfl (fun hb => (HT hb).1.2.2.2.2.1) (fun hb => HF hb _ (by omega))) (fun w' rv _ hpo => ?_)
  obtain ⟨rfl, rfl⟩ := hpo
  refine o.run 100 [] ?_
  show Z 71 (mdW 0 (mN (mR (mN (mN (mN (mN (mN M 0 (W 0)) 3 (W 1)) 4 (W 2)) 9 (W 3)) 10 (W 4)) 21 (mix 5 W f0)) 41 (nI 5))) [some (.ref 0), none] [.int (M.1 11), .ref 0, .ref 0]
  refine o.cV (rest := [.ref 0]) vX4_247 (m_carry (M := (mN (mR (mN (mN (mN (mN (mN M 0 (W 0)) 3 (W 1)) 4 (W 2)) 9 (W 3)) 10 (W 4)) 21 (mix 5 W f0)) 41 (nI 5))) (k := 5) (W := W) (f0 := f0) (b := b) (by omega) rfl e42 rfl (fun hb => (HT hb).1.2.2.2.2.2) (fun hb => HF hb _ (by omega))) (fun w' rv _ hpo => ?_)
  obtain ⟨rfl, rfl⟩ := hpo
  have h0 := lp1 24 0 (by omega)
  unfold cRw cNm at h0
  simp only [mix_0] at h0
  exact o.run 100 [79] h0
end MI
