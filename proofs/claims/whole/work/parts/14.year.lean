/-! what most do, the harvest, the choice, the years -/
section YR
variable {l : Launch} {D : va_G} {C : zC} {RB : Nat} {I : zI} {RL : List zRu}
theorem cnt_upd (f : Nat → Bool) (k : Nat) : cnt f (k + 1) = cnt f k + (if f k then 1 else 0) := rfl
set_option maxRecDepth 10000 in
theorem c_mostSeen {n p W : Nat} {v : Nat → Nat} (hn : n ≤ 8) (hp : p < n) (hW : W ≤ 6) (e4 : I.1 4 = nI n) (e0 : I.1 0 = nI W) (ev : ∀ j, I.2.1 2 j = nI (v j)) (hv : ∀ j, v j < 6) : zFun l D C yX0_mostSeen cX0_mostSeen 4 (some .int) (zR 1) [.ref 0, .int (nI p)] (isl 0 RB I) (fun w' rv => (∃ pl, w' = isl 0 RB (setA I 9 pl)) ∧ rv = some (.int (nI (msn (fun w => cnt (fun o => sb (I.2.1 7 p) o && decide (v o = w)) n) (v p) W)))) := by
  refine zFun_of (by decide) oX0_mostSeen tbX0 (Nat.le_of_ble_eq_true rfl) (fun Z o => ?_)
  let g : Nat → Nat → Int32 := fun k w => nI (cnt (fun o => sb (I.2.1 7 p) o && decide (v o = w)) k)
  have hcn : ∀ k w, cnt (fun o => sb (I.2.1 7 p) o && decide (v o = w)) k ≤ k := fun k w => cnt_le _ k
  have loop2 : ∀ j k, k + j = W → Z 61 (isl 0 RB (setA I 9 (mix 6 (g n) (I.2.1 9)))) [some (.ref 0), some (.int (nI p)), some (.int (nI (msn (fun w => cnt (fun o => sb (I.2.1 7 p) o && decide (v o = w)) n) (v p) k))), some (.int (nI k))] [] := by
    intro j
    induction j with
    | zero =>
      intro k hk
      obtain rfl : k = W := by omega
      exact o.run 100 [] ⟨fun _ => ⟨⟨_, rfl, rfl⟩, rfl, ⟨_, rfl⟩, rfl⟩, fun h => absurd (by show I.1 0 ≤ _; rw [e0]; exact nI_le (Nat.le_refl _) (by omega)) h⟩
    | succ j ih =>
      intro k hk
      have hm := msn_lt (c := fun w => cnt (fun o => sb (I.2.1 7 p) o && decide (v o = w)) n) (hv p) k (by omega)
      have h1 := hcn n k
      have h2 := hcn n (msn (fun w => cnt (fun o => sb (I.2.1 7 p) o && decide (v o = w)) n) (v p) k)
      have e1 : mix 6 (g n) (I.2.1 9) k = g n k := mix_lt (by omega)
      have e2 : mix 6 (g n) (I.2.1 9) (msn (fun w => cnt (fun o => sb (I.2.1 7 p) o && decide (v o = w)) n) (v p) k) = g n (msn (fun w => cnt (fun o => sb (I.2.1 7 p) o && decide (v o = w)) n) (v p) k) := mix_lt hm
      refine o.run 100 [61] ⟨fun h => absurd h (by show ¬ I.1 0 ≤ _; rw [e0]; exact nI_ge (by omega) (by omega)), fun _ => ⟨k, rfl, by omega, _, rfl, hm, fun h => ?_, fun h => ?_⟩⟩
      · have h : mix 6 (g n) (I.2.1 9) k ≤ mix 6 (g n) (I.2.1 9) (msn (fun w => cnt (fun o => sb (I.2.1 7 p) o && decide (v o = w)) n) (v p) k) := h
        rw [e1, e2, nI_leI (by omega) (by omega)] at h
        have := ih (k + 1) (by omega)
        rw [msn, if_neg (by omega), ← nI_1 k] at this
        exact this
      · have h : ¬ mix 6 (g n) (I.2.1 9) k ≤ mix 6 (g n) (I.2.1 9) (msn (fun w => cnt (fun o => sb (I.2.1 7 p) o && decide (v o = w)) n) (v p) k) := h
        rw [e1, e2, nI_leI (by omega) (by omega)] at h
        have := ih (k + 1) (by omega)
        rw [msn, if_pos (by omega), ← nI_1 k] at this
        exact this
  have loop1 : ∀ j k, k + j = n → Z 10 (isl 0 RB (setA I 9 (mix 6 (g k) (I.2.1 9)))) [some (.ref 0), some (.int (nI p)), some (.int (nI k)), none] [] := by
    intro j
    induction j with
    | zero =>
      intro k hk
      obtain rfl : k = n := by omega
      refine o.run 100 [61] ⟨fun _ => ⟨p, rfl, by omega, ?_⟩, fun h => absurd (by show I.1 4 ≤ _; rw [e4]; exact nI_le (Nat.le_refl _) (by omega)) h⟩
      have := loop2 W 0 (by omega)
      rw [msn, ← ev p] at this
      exact this
    | succ j ih =>
      intro k hk
      refine o.run 100 [10] ⟨fun h => absurd h (by show ¬ I.1 4 ≤ _; rw [e4]; exact nI_ge (by omega) (by omega)), fun _ => ⟨p, rfl, by omega, fun h1 => ?_, fun h1 => ⟨k, rfl, by omega, v k, ev k, hv k, v k, ev k, hv k, ?_⟩⟩⟩
      · have := ih (k + 1) (by omega)
        have hs : sb (I.2.1 7 p) k = false := decide_eq_false (fun h2 => h2 h1)
        have e : g (k + 1) = g k := by
          funext w
          show nI (cnt _ (k + 1)) = nI (cnt _ k)
          rw [cnt_upd, hs]; rfl
        rw [e, ← nI_1 k] at this
        exact this
      · have := ih (k + 1) (by omega)
        have hs : sb (I.2.1 7 p) k = true := decide_eq_true h1
        have e : mix 6 (g (k + 1)) (I.2.1 9) = upd (mix 6 (g k) (I.2.1 9)) (v k) (mix 6 (g k) (I.2.1 9) (v k) + nI 1) := by
          funext w
          unfold upd
          by_cases hw : w = v k
          · subst hw
            rw [if_pos rfl, mix_lt (hv k), mix_lt (hv k)]
            show nI (cnt _ (k + 1)) = nI (cnt _ k) + nI 1
            rw [cnt_upd, hs, nI_add]; simp
          · rw [if_neg hw]
            by_cases h6 : w < 6
            · rw [mix_lt h6, mix_lt h6]
              show nI (cnt _ (k + 1)) = nI (cnt _ k)
              rw [cnt_upd, hs]
              have : ¬ v k = w := fun h => hw h.symm
              simp [this]
            · rw [mix_ge (by omega), mix_ge (by omega)]
        rw [e, ← nI_1 k] at this
        exact this
  refine o.run 100 [] ?_
  show Z _ _ _ _
  refine o.cS1 (a := 11) (Bs := [.int (nI 0)]) vX0_83 (c_fill (n := 6) (f := I.2.1 9) (x := nI 0) (by omega)) rfl (fun rv hrv => ?_)
  subst hrv
  have e : mix 6 (fun _ => nI 0) (I.2.1 9) = mix 6 (g 0) (I.2.1 9) := rfl
  have := loop1 n 0 (by omega)
  rw [← e] at this
  exact o.run 100 [10] this
/-- who is seen: bits by which one sees in a year -/
def seB (sh y : Nat) (se hi : Int32) (p : Nat) : Int32 := ((if 0 < sh ∧ y % sh = 0 then nI 255 else se) &&& (hi ^^^ zi (-1))) ||| (nI 1 <<< (nI p &&& 31))
set_option maxRecDepth 10000 in
theorem c_harvest {n y s0 L sh : Nat} {v sk : Nat → Nat} (hn : n ≤ 8) (hy : y < 2 ^ 30) (h0 : s0 ≤ y) (hL : 0 < L) (hL2 : L ≤ 24) (hsh : sh ≤ 24) (e1 : I.1 1 = nI L) (e2 : I.1 2 = nI s0) (e4 : I.1 4 = nI n) (e5 : I.1 5 = nI y) (e6 : I.1 6 = nI sh) (ek : ∀ j, I.2.1 1 j = nI (sk j)) (hk : ∀ j, sk j < 4) (ev : ∀ j, I.2.1 2 j = nI (v j)) (hv : ∀ j, v j < 6) :
    zFun l D C yX0_harvest cX0_harvest 5 none (zR 1) [.ref 0] (isl 0 RB I) (fun w' rv => w' = isl 0 RB (setA (setA I 7 (mix n (fun p => seB sh y (I.2.1 4 p) (I.1 7) p) (I.2.1 7))) 6 (mix n (fun p => I.2.1 0 (v p * 4 + sk ((y - s0) % L))) (I.2.1 6))) ∧ rv = none) := by
  refine zFun_of (by decide) oX0_harvest tbX0 (Nat.le_of_ble_eq_true rfl) (fun Z o => ?_)
  let t := sk ((y - s0) % L)
  let bb : Bool := decide (0 < sh ∧ y % sh = 0)
  let sn : Nat → Int32 := fun p => seB sh y (I.2.1 4 p) (I.1 7) p
  let br : Nat → Int32 := fun p => I.2.1 0 (v p * 4 + t)
  let J : Nat → zI := fun k => setA (setA I 7 (mix k sn (I.2.1 7))) 6 (mix k br (I.2.1 6))
  have loop : ∀ j k, k + j = n → ∀ x4, Z 23 (isl 0 RB (J k)) [some (.ref 0), some (.int (nI t)), some (.int (zB bb)), some (.int (nI k)), x4] [] := by
    intro j
    induction j with
    | zero =>
      intro k hk x4
      obtain rfl : k = n := by omega
      exact o.run 100 [] ⟨fun _ => ⟨rfl, rfl, rfl, rfl⟩, fun h => absurd (by show I.1 4 ≤ _; rw [e4]; exact nI_le (Nat.le_refl _) (by omega)) h⟩
    | succ j ih =>
      intro k hkj x4
      have go : ∀ oth : Int32, ((if 0 < sh ∧ y % sh = 0 then nI 255 else I.2.1 4 k) &&& (I.1 7 ^^^ zi (-1))) = oth → Z 56 (isl 0 RB (J k)) [some (.ref 0), some (.int (nI t)), some (.int (zB bb)), some (.int (nI k)), some (.int oth)] [] := by
        intro oth hoth
        refine o.run 100 [] ⟨k, rfl, by omega, k, rfl, by omega, ?_⟩
        show Z _ _ _ _
        have hlen : ∀ (A B : zS), A = B → Z (56 + 1 + 3 + 1 + 2 + 1 + 1 + 1 + 1 + 1 + 1 + 3 + 1 + 1 + 1 + 3 + 1 + 1 + 1) B [some (.ref 0), some (.int (nI t)), some (.int (zB bb)), some (.int (nI k)), some (.int oth)] [.int (nI t), .int (I.2.1 2 k), .ref 0, .int (nI k), .ref 8] → Z (56 + 1 + 3 + 1 + 2 + 1 + 1 + 1 + 1 + 1 + 1 + 3 + 1 + 1 + 1 + 3 + 1 + 1 + 1) A [some (.ref 0), some (.int (nI t)), some (.int (zB bb)), some (.int (nI k)), some (.int oth)] [.int (nI t), .int (I.2.1 2 k), .ref 0, .int (nI k), .ref 8] := fun A B e h => e ▸ h
        have es : oth ||| (nI 1 <<< (nI k &&& 31)) = sn k := by rw [← hoth]; rfl
        refine hlen _ (isl 0 RB (setA (setA I 7 (upd (mix k sn (I.2.1 7)) k (oth ||| (nI 1 <<< (nI k &&& 31))))) 6 (mix k br (I.2.1 6)))) rfl ?_
        rw [es, mix_upd, ev k]
        refine o.cV (rest := [.int (nI k), .ref 8]) vX0_89 (c_bringsOf (w := v k) (t := t) (hv k) (hk _)) (fun w rv _ hpo => ?_)
        obtain ⟨rfl, rfl⟩ := hpo
        refine o.run 100 [23] ⟨k, rfl, by omega, ?_⟩
        have := ih (k + 1) (by omega) (some (.int oth))
        have eb : mix (k + 1) br (I.2.1 6) = upd (mix k br (I.2.1 6)) k (I.2.1 0 (v k * 4 + t)) := (mix_upd k br (I.2.1 6)).symm
        have eJ : J (k + 1) = setA (setA I 7 (mix (k + 1) sn (I.2.1 7))) 6 (upd (mix k br (I.2.1 6)) k (I.2.1 0 (v k * 4 + t))) := by rw [← eb]
        rw [eJ, ← nI_1 k] at this
        exact this
      refine o.run 100 [56] ⟨fun h => absurd h (by show ¬ I.1 4 ≤ _; rw [e4]; exact nI_ge (by omega) (by omega)), fun _ => ⟨fun h => ⟨k, rfl, by omega, ?_⟩, fun h => ?_⟩⟩
      · have hbf : bb = false := (zB_0 bb).mp h
        refine go _ ?_
        rw [if_neg (of_decide_eq_false hbf)]; rfl
      · have hbt : bb = true := by
          cases hq : bb with
          | true => rfl
          | false => exact absurd ((zB_0 bb).mpr hq) h
        refine go _ ?_
        rw [if_pos (of_decide_eq_true hbt)]; rfl
  refine o.run 100 [] ?_
  show Z _ _ _ _
  rw [e5]
  refine o.cV vX0_97 (c_weatherOf (y := y) (s0 := s0) (L := L) hy h0 hL hL2 e1 e2) (fun w rv _ hpo => ?_)
  obtain ⟨rfl, rfl⟩ := hpo
  rw [ek]
  refine o.run 100 [] ?_
  show Z _ _ _ _
  rw [e5, e6]
  refine o.cS vX0_113 (c_isDivisor (k := sh) (y := y) (by omega) hy) (fun rv hpo => ?_)
  subst hpo
  have h1 := loop n 0 (by omega) none
  have e0 : J 0 = setA (setA I 7 (I.2.1 7)) 6 (I.2.1 6) := by show setA (setA I 7 (mix 0 sn (I.2.1 7))) 6 (mix 0 br (I.2.1 6)) = _; rw [mix_0, mix_0]
  rw [e0] at h1
  exact o.run 100 [23] h1
end YR
