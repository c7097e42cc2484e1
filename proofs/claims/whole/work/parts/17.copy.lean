/-! copies of an island, a rule more -/
def mixO (k : Nat) (f g : Nat → Option Nat) : Nat → Option Nat := fun j => if j < k then f j else g j
def setR (I : zI) (f : Nat → Option Nat) : zI := (I.1, I.2.1, f)
/-- what copyFrom makes of the island I: the numbers, the first six rows and the rules of O -/
def cpI (I O : zI) : zI := (O.1, fun k => if k < 6 then O.2.1 k else I.2.1 k, O.2.2)
section CPY
variable {l : Launch} {D : va_G} {C : zC} {I O : zI} {RL : List zRu}
set_option maxRecDepth 10000 in
theorem c_addRule {rc r : Nat} (hrc : rc < 10) (hr : r < RL.length) (e3 : I.1 3 = nI rc) : zFun l D C yX0_addRule cX0_addRule 2 (some .int) (zR 0) [.ref 0, .ref (r + 12)] (isl 0 12 I ++ pol 12 RL) (fun w' rv => w' = isl 0 12 (setS (setR I (va_up I.2.2 rc (some r))) 3 (nI (rc + 1))) ++ pol 12 RL ∧ rv = some (.int (nI rc))) := by
  refine zFun_of (by decide) oX0_addRule tbX0 (Nat.le_of_ble_eq_true rfl) (fun Z o => ?_)
  refine o.run 100 [] ?_
  show Z 9 (isl 0 12 I ++ pol 12 RL) [some (.ref 0), some (.ref (r + 12))] (va_rf (some (r + 12)) :: .int (I.1 3) :: .ref 3 :: [])
  rw [e3]
  refine o.aas (a := 3) rfl hrc (by omega) (fun v hv => ?_) ?_
  · cases hv
    refine ⟨[.int (RL[r]).1, .int (RL[r]).2.1, va_rf ((RL[r]).2.2.1.map (fun i => i + 12)), va_rf ((RL[r]).2.2.2.map (fun i => i + 12))], ?_⟩
    · rw [List.getElem?_append_right (by rw [isl_len]; omega), isl_len, Nat.add_sub_cancel, pol_at, List.getElem?_eq_getElem hr]; rfl
  · have e : va_up (fun j => (I.2.2 j).map (fun i => i + 12)) rc (some (r + 12)) = (fun j => (va_up I.2.2 rc (some r) j).map (fun i => i + 12)) := by
      funext j
      unfold va_up
      split <;> rfl
    rw [e]
    refine o.run 100 [] ⟨⟨_, rfl, rfl⟩, rfl, ?_, ?_⟩
    · rw [← nI_1 rc, ← e3]; rfl
    · rw [← e3]
set_option maxRecDepth 10000 in
theorem c_copyFrom (hO : ∀ k, k < 10 → ∀ r, O.2.2 k = some r → r < RL.length) : zFun l D C yX0_copyFrom cX0_copyFrom 3 none (zR 1) [.ref 0, .ref 12] (isl 0 24 I ++ (isl 12 24 O ++ pol 24 RL)) (fun w' rv => w' = isl 0 24 (cpI I O) ++ (isl 12 24 O ++ pol 24 RL) ∧ rv = none) := by
  refine zFun_of (by decide) oX0_copyFrom tbX0 (Nat.le_of_ble_eq_true rfl) (fun Z o => ?_)
  let lv0 : zL := [some (.ref 0), some (.ref 12), none]
  let T : zS := isl 12 24 O ++ pol 24 RL
  have hm : ∀ (n : Nat) (f g : Nat → Int32) j, j < n → va_cpy f g 0 0 n j = f j := fun n f g j hj => by rw [cpy_mix, mix_lt hj]
  -- behind the loop
  have last : ∀ J : zI, (∀ k, k < 4 → J.1 k = O.1 k) → J.2.1 0 = O.2.1 0 → J.2.1 1 = O.2.1 1 → (∀ k, 6 ≤ k → J.2.1 k = I.2.1 k) → J.2.2 = O.2.2 → ∀ x2, Z 91 (isl 0 24 J ++ T) [some (.ref 0), some (.ref 12), x2] [] := by
    intro J h1 h2 h3 h4 h5 x2
    refine o.run 100 [] ?_
    show Z 111 (isl 0 24 (setS J 4 (O.1 4)) ++ T) _ [.int (nI 8), .int (nI 0), .ref 4, .int (nI 0), .ref 16]
    refine o.cp (a0 := 16) (a1 := 4) (n0 := 8) (n1 := 8) (f := O.2.1 2) (g := J.2.1 2) 0 0 8 cpX0 rfl rfl (by omega) (by omega) (by omega) (by omega) ?_
    refine o.xi 4 (O.2.1 2) rfl (hm 8 _ _) (o.run 100 [] ?_)
    show Z 126 (isl 0 24 (setA (setS J 4 (O.1 4)) 2 (O.2.1 2)) ++ T) _ [.int (nI 8), .int (nI 0), .ref 5, .int (nI 0), .ref 17]
    refine o.cp (a0 := 17) (a1 := 5) (n0 := 8) (n1 := 8) (f := O.2.1 3) (g := J.2.1 3) 0 0 8 cpX0 rfl rfl (by omega) (by omega) (by omega) (by omega) ?_
    refine o.xi 5 (O.2.1 3) rfl (hm 8 _ _) (o.run 100 [] ?_)
    show Z 141 (isl 0 24 (setA (setA (setS J 4 (O.1 4)) 2 (O.2.1 2)) 3 (O.2.1 3)) ++ T) _ [.int (nI 8), .int (nI 0), .ref 6, .int (nI 0), .ref 18]
    refine o.cp (a0 := 18) (a1 := 6) (n0 := 8) (n1 := 8) (f := O.2.1 4) (g := J.2.1 4) 0 0 8 cpX0 rfl rfl (by omega) (by omega) (by omega) (by omega) ?_
    refine o.xi 6 (O.2.1 4) rfl (hm 8 _ _) (o.run 100 [] ?_)
    show Z 156 (isl 0 24 (setA (setA (setA (setS J 4 (O.1 4)) 2 (O.2.1 2)) 3 (O.2.1 3)) 4 (O.2.1 4)) ++ T) _ [.int (nI 8), .int (nI 0), .ref 7, .int (nI 0), .ref 19]
    refine o.cp (a0 := 19) (a1 := 7) (n0 := 8) (n1 := 8) (f := O.2.1 5) (g := J.2.1 5) 0 0 8 cpX0 rfl rfl (by omega) (by omega) (by omega) (by omega) ?_
    refine o.xi 7 (O.2.1 5) rfl (hm 8 _ _) (o.run 100 [] ⟨rfl, rfl, ?_, rfl⟩)
    show isl 0 24 (setS (setS (setS (setA (setA (setA (setA (setS J 4 (O.1 4)) 2 (O.2.1 2)) 3 (O.2.1 3)) 4 (O.2.1 4)) 5 (O.2.1 5)) 5 (O.1 5)) 6 (O.1 6)) 7 (O.1 7)) ++ T = isl 0 24 (cpI I O) ++ T
    have g0 := h1 0 (by omega)
    have g1 := h1 1 (by omega)
    have g2 := h1 2 (by omega)
    have g3 := h1 3 (by omega)
    have k6 := h4 6 (by omega)
    have k7 := h4 7 (by omega)
    have k8 := h4 8 (by omega)
    have k9 := h4 9 (by omega)
    congr 1
    simp only [isl, setS, setA, cpI, upd, g0, g1, g2, g3, h2, h3, h5, k6, k7, k8, k9]
    rfl
  -- the loop over the rules
  have loop : ∀ j k, k + j = 10 → ∀ J : zI, (∀ k, k < 4 → J.1 k = O.1 k) → J.2.1 0 = O.2.1 0 → J.2.1 1 = O.2.1 1 → (∀ k, 6 ≤ k → J.2.1 k = I.2.1 k) → J.2.2 = mixO k O.2.2 I.2.2 → Z 67 (isl 0 24 J ++ T) [some (.ref 0), some (.ref 12), some (.int (nI k))] [] := by
    intro j
    induction j with
    | zero =>
      intro k hk J h1 h2 h3 h4 h5
      obtain rfl : k = 10 := by omega
      refine o.run 100 [91] ⟨fun _ => ?_, fun h => absurd (by decide) h⟩
      show Z _ _ _ _
      refine o.xr 3 (fun j => (O.2.2 j).map (fun r => r + 24)) rfl (fun j hj => ?_) ?_
      · show (J.2.2 j).map _ = _
        rw [h5, mixO, if_pos hj]
      · exact last (setR J O.2.2) h1 h2 h3 h4 rfl _
    | succ j ih =>
      intro k hk J h1 h2 h3 h4 h5
      refine o.run 100 [] ⟨fun h => absurd h (show ¬ nI 10 ≤ nI k from nI_ge (by omega) (by omega)), fun _ => ?_⟩
      show Z 83 (isl 0 24 J ++ T) _ [.int (nI k), .ref 15, .int (nI k), .ref 3]
      refine o.aal (a := 15) (n := 10) (f := fun j => (O.2.2 j).map (fun r => r + 24)) rfl (by omega) (by omega) ?_
      refine o.aas (a := 3) (n := 10) (f := fun j => (J.2.2 j).map (fun r => r + 24)) (ov := (O.2.2 k).map (fun r => r + 24)) rfl (by omega) (by omega) (fun v hv => ?_) ?_
      · obtain ⟨r, hr, rfl⟩ := Option.map_eq_some_iff.mp hv
        have hlt := hO k (by omega) r hr
        refine ⟨[.int (RL[r]).1, .int (RL[r]).2.1, va_rf ((RL[r]).2.2.1.map (fun i => i + 24)), va_rf ((RL[r]).2.2.2.map (fun i => i + 24))], ?_⟩
        show (isl 0 24 J ++ (isl 12 24 O ++ pol 24 RL))[r + 24]? = _
        rw [← List.append_assoc, List.getElem?_append_right (by simp [isl_len]), pol_at]
        have : r + 24 - (isl 0 24 J ++ isl 12 24 O).length = r := by simp [isl_len]
        rw [this, List.getElem?_eq_getElem hlt]; rfl
      · have e : va_up (fun j => (J.2.2 j).map (fun r => r + 24)) k ((O.2.2 k).map (fun r => r + 24)) = (fun j => (mixO (k + 1) O.2.2 I.2.2 j).map (fun r => r + 24)) := by
          funext q
          unfold va_up
          rw [h5]
          unfold mixO
          by_cases hq : q = k
          · subst hq; rw [if_pos rfl, if_pos (by omega)]
          · rw [if_neg hq]
            dsimp only
            by_cases h6 : q < k
            · rw [if_pos h6, if_pos (by omega)]
            · rw [if_neg h6, if_neg (by omega)]
        rw [e]
        refine o.run 100 [67] ?_
        have := ih (k + 1) (by omega) (setR J (mixO (k + 1) O.2.2 I.2.2)) h1 h2 h3 h4 rfl
        rw [← nI_1 k] at this
        exact this
  refine o.run 100 [] ?_
  show Z 23 (isl 0 24 (setS I 0 (O.1 0)) ++ T) _ [.int (nI 24), .int (nI 0), .ref 1, .int (nI 0), .ref 13]
  refine o.cp (a0 := 13) (a1 := 1) (n0 := 24) (n1 := 24) (f := O.2.1 0) (g := I.2.1 0) 0 0 24 cpX0 rfl rfl (by omega) (by omega) (by omega) (by omega) ?_
  refine o.xi 1 (O.2.1 0) rfl (hm 24 _ _) (o.run 100 [] ?_)
  show Z 46 (isl 0 24 (setS (setA (setS I 0 (O.1 0)) 0 (O.2.1 0)) 1 (O.1 1)) ++ T) _ [.int (nI 24), .int (nI 0), .ref 2, .int (nI 0), .ref 14]
  refine o.cp (a0 := 14) (a1 := 2) (n0 := 24) (n1 := 24) (f := O.2.1 1) (g := I.2.1 1) 0 0 24 cpX0 rfl rfl (by omega) (by omega) (by omega) (by omega) ?_
  refine o.xi 2 (O.2.1 1) rfl (hm 24 _ _) (o.run 100 [67] ?_)
  refine loop 10 0 rfl (setS (setS (setA (setS (setA (setS I 0 (O.1 0)) 0 (O.2.1 0)) 1 (O.1 1)) 1 (O.2.1 1)) 2 (O.1 2)) 3 (O.1 3)) ?_ rfl rfl ?_ ?_
  · intro k hk
    match k, hk with
    | 0, _ => rfl
    | 1, _ => rfl
    | 2, _ => rfl
    | 3, _ => rfl
  · intro k hk
    have a0 : ¬ k = 0 := by omega
    have a1 : ¬ k = 1 := by omega
    show (if k = 1 then _ else if k = 0 then _ else I.2.1 k) = _
    rw [if_neg a1, if_neg a0]
  · funext q
    show I.2.2 q = mixO 0 O.2.2 I.2.2 q
    unfold mixO
    rw [if_neg (by omega)]
/-- what imagine makes of the island I -/
def imI (I O : zI) : zI := setA (cpI I O) 5 (fun _ => nI 0)
set_option maxRecDepth 10000 in
theorem c_imagine (hO : ∀ k, k < 10 → ∀ r, O.2.2 k = some r → r < RL.length) : zFun l D C yX0_imagine cX0_imagine 2 none (zR 2) [.ref 0, .ref 12] (isl 0 24 I ++ (isl 12 24 O ++ pol 24 RL)) (fun w' rv => w' = isl 0 24 (imI I O) ++ (isl 12 24 O ++ pol 24 RL) ∧ rv = none) := by
  refine zFun_of (by decide) oX0_imagine tbX0 (Nat.le_of_ble_eq_true rfl) (fun Z o => ?_)
  refine o.run 100 [] ?_
  show Z _ _ _ _
  refine o.cV (As := [.ref 12]) vX0_79 (c_copyFrom (I := I) hO) (fun w rv _ hpo => ?_)
  obtain ⟨rfl, rfl⟩ := hpo
  refine o.run 100 [] ?_
  show Z _ _ _ _
  refine o.cS1 (a := 7) (Bs := [.int (nI 0)]) vX0_83 (c_fill (n := 8) (f := O.2.1 5) (x := nI 0) (by omega)) rfl (fun rv hrv => ?_)
  subst hrv
  refine o.xi 7 (fun _ => nI 0) rfl (fun j hj => mix_lt hj) (o.run 100 [] ⟨rfl, rfl, rfl, rfl⟩)
end CPY
