/-! the class's public methods, 3 -/
theorem whW_eq {v hi x : Int32} {n : Nat} : whW v hi x n = (if whKW v hi x n = 0 then nI 0 else -(nI (whKW v hi x n))) ∧ whKW v hi x n < 7 ∧ ¬ -(nI (if whKW v hi x n = 0 then 4 else whKW v hi x n)) = 0 := by
  unfold whW whKW
  by_cases h1 : v < 0
  · rw [if_pos h1, if_pos h1]; exact ⟨rfl, by decide, by decide⟩
  · rw [if_neg h1, if_neg h1]
    unfold whR
    by_cases h2 : x < nI 1
    · rw [if_pos h2, if_pos h2, if_pos rfl]; exact ⟨rfl, by decide, by decide⟩
    · rw [if_neg h2, if_neg h2]
      by_cases h4 : nI 60 < x
      · rw [if_pos h4, if_pos h4, if_neg (by decide)]
        by_cases h3 : hi < v
        · rw [if_pos h3, if_pos h3]; exact ⟨rfl, by decide, by decide⟩
        · rw [if_neg h3, if_neg h3]; exact ⟨rfl, by decide, by decide⟩
      · rw [if_neg h4, if_neg h4]
        by_cases h5 : n = 0
        · rw [if_pos h5, if_pos h5, if_neg (by decide)]
          by_cases h3 : hi < v
          · rw [if_pos h3, if_pos h3]; exact ⟨rfl, by decide, by decide⟩
          · rw [if_neg h3, if_neg h3]; exact ⟨rfl, by decide, by decide⟩
        · rw [if_neg h5, if_neg h5, if_neg (by decide)]
          by_cases h3 : hi < v
          · rw [if_pos h3, if_pos h3]; exact ⟨rfl, by decide, by decide⟩
          · rw [if_neg h3, if_neg h3]; exact ⟨rfl, by decide, by decide⟩
theorem whKW_0 {v hi x : Int32} {n : Nat} (h : whKW v hi x n = 0) : whK x n = 0 ∧ ¬ v < 0 ∧ ¬ hi < v := by
  unfold whKW at h
  unfold whK
  by_cases h1 : v < 0
  · rw [if_pos h1] at h; cases h
  · rw [if_neg h1] at h
    by_cases h2 : x < nI 1
    · rw [if_pos h2] at h; cases h
    · rw [if_neg h2] at h
      by_cases h3 : hi < v
      · rw [if_pos h3] at h; cases h
      · rw [if_neg h3] at h
        rw [if_neg h2]
        exact ⟨h, h1, h3⟩
theorem allN_congr {f g : Nat → Bool} : ∀ {n : Nat}, (∀ p, p < n → f p = g p) → allN f n = allN g n
  | 0, _ => rfl
  | n + 1, h => by unfold allN; rw [allN_congr (fun p hp => h p (by omega)), h n (by omega)]
section PUB3
variable {l : Launch} {D : va_G} {C : zC} {Y : zY} {RL : List zRu} {S : zF} {c : Nat}
set_option maxRecDepth 10000 in
theorem y_gain (h : repY RL Y S c) (hc : c ≤ 100) {p r x : Int32} : zPub l D C yX3_gain cX3_gain 6 5 [.int p, .int r, .int x] Y RL c (sGain S p r x) := by
  have hI := h.2.1.1
  have hT := h.2.1.2
  have hWb : S.1.1 0 ≤ 6 := hT.1.1
  have hnb : S.1.1 3 ≤ 8 := hT.1.2.2.2.2.1
  have hrb : S.1.1 2 ≤ 10 := hT.1.2.2.2.1
  have e0 : (Y.1 0).1 0 = nI (S.1.1 0) := hI.1.1
  have e3 : (Y.1 0).1 3 = nI (S.1.1 2) := hI.1.2.2.2.1
  have e4 : (Y.1 0).1 4 = nI (S.1.1 3) := hI.1.2.2.2.2.1
  have hR := h.1
  refine zFun_of (by decide) oX3_gain tbX3 (Nat.le_of_ble_eq_true rfl) (fun Z o => ?_)
  have far : ∀ k, 0 < k → k < 7 → ¬ -(nI k) = 0 → sGain S p r x = sRff S k → ∀ x5, Z 27 (yamW 53 Y ++ pol 53 RL) [some (.ref 0), some (.int p), some (.int r), some (.int x), some (.int (-(nI k))), x5] [] := fun k hk hk7 hk0 e x5 => by
    refine o.run 100 [] ⟨fun q => absurd q hk0, fun _ => ?_⟩
    show Z _ _ _ _
    refine o.cV vX3_174 (c_refuseFar (k := k) hk hk7) (fun w' rv _ hpo => ?_)
    obtain ⟨rfl, rfl⟩ := hpo
    exact o.run 100 [] (pret (A' := sRff S k) (e) _ (rep_rf h k))
  refine o.run 100 [] ?_
  show Z _ _ _ _
  refine o.cV vX3_120 (c_isPerson (x := p) e4) (fun w' rv _ hpo => ?_)
  obtain ⟨rfl, rfl⟩ := hpo
  refine o.run 100 [27] ⟨fun q => far 1 (by omega) (by omega) (by decide) (by rw [sGain, (zB_0 _).mp q]; rfl) none, fun q => ?_⟩
  have hp := zB_t q
  show Z _ _ _ _
  refine o.cV vX3_111 (c_isRule (x := r) e3) (fun w' rv _ hpo => ?_)
  obtain ⟨rfl, rfl⟩ := hpo
  refine o.run 100 [27] ⟨fun q => far 1 (by omega) (by omega) (by decide) (by rw [sGain, (zB_0 _).mp q, Bool.and_false]; rfl) none, fun q => ?_⟩
  have hr := zB_t q
  have hb : (isN p (S.1.1 3) && isN r (S.1.1 2)) = true := by rw [hp, hr]; rfl
  show Z _ _ _ _
  refine o.cV vX3_151 (c_whyNoRun (x := x) hnb e4) (fun w' rv _ hpo => ?_)
  obtain ⟨rfl, rfl⟩ := hpo
  by_cases hz : whK x (S.1.1 3) = 0
  · obtain ⟨m, rfl, hm1, hm2, hn0⟩ := wh0 hz
    have hcl : cl (nI m) = m := nI_clamp (by omega)
    have hM := rep_okM hR hI hT hc hm2
    obtain ⟨ep, hpl⟩ := isN_cl (by omega) hp
    obtain ⟨er, hrlt⟩ := isN_cl (by omega) hr
    obtain ⟨pn, hpn⟩ : ∃ k, k = cl p := ⟨_, rfl⟩
    obtain ⟨rn, hrn⟩ : ∃ k, k = cl r := ⟨_, rfl⟩
    rw [← hpn] at ep hpl
    rw [← hrn] at er hrlt
    subst ep er
    have hrl : ∀ p, p < S.1.1 3 → ruT S.1 p < S.1.1 2 := fun p hp => (hT.2.2.2.1 p hp).1
    obtain ⟨ra, hra⟩ := rep_rule hI hrlt
    obtain ⟨rb, hrb2⟩ := rep_rule hI (hrl pn hpl)
    have h10 := (hT.2.2.1 pn).2.2
    rw [whR_0 hz]
    refine o.run 100 [] ⟨fun _ => ⟨pn, rfl, by omega, ?_⟩, fun q => absurd nI_0 q⟩
    show Z 58 (yamW 53 Y ++ pol 53 RL) [some (.ref 0), some (.int (nI pn)), some (.int (nI rn)), some (.int (nI m)), some (.int (nI 0)), some (.int ((Y.1 0).2.1 3 pn))] [.int (nI m), .int (nI rn), .int (nI pn), .ref 1, .ref 0]
    rw [show (Y.1 0).2.1 3 pn = nI (ruT S.1 pn) by rw [hI.2.1.2.2.2.1]]
    refine o.cV (As := [.ref 1, .int (nI pn), .int (nI rn), .int (nI m)]) vX3_177 (c_broughtBy (k := 0) (p := pn) (r := rn) (by omega) hM hpl (by omega) hra) (fun w' rv _ hpo => ?_)
    obtain ⟨⟨M, rfl⟩, rfl⟩ := hpo
    refine o.run 100 [] ?_
    show Z _ _ _ _
    refine o.cV (As := [.ref 1, .int (nI pn), .int (nI (ruT S.1 pn)), .int (nI m)]) (rest := [.int _]) vX3_177 (c_broughtBy (Y := setJ Y 3 M) (k := 0) (p := pn) (r := ruT S.1 pn) (by omega) hM hpl h10 hrb2) (fun w' rv _ hpo => ?_)
    obtain ⟨⟨M2, rfl⟩, rfl⟩ := hpo
    refine o.run 100 [] (pret (Y' := setJ Y 3 M2) (A' := (gaI RL (Y.1 0) (S.1.1 0) (S.1.1 3) (S.1.1 4) 0 (S.1.1 1) (S.1.1 5) (S.1.2.2.1 0) (S.1.2.2.1 1) (rOne pn rn (ruT S.1)) m pn - gaI RL (Y.1 0) (S.1.1 0) (S.1.1 3) (S.1.1 4) 0 (S.1.1 1) (S.1.1 5) (S.1.2.2.1 0) (S.1.2.2.1 1) (rOne pn (ruT S.1 pn) (ruT S.1)) m pn, S)) ?_ (rep_mono h (Nat.le_succ c)))
    rw [sGain, if_pos hb, if_pos hz, hcl, ← hpn, ← hrn, rOne_self, rep_ga hI hT (rOne_lt hrlt hrl), rep_ga hI hT hrl]
  · obtain ⟨hk1, hkp, hk7, hk0⟩ := whR_k hz
    rw [hk1]
    exact o.run 100 [27] (far _ hkp hk7 hk0 (by rw [sGain, if_pos hb, if_neg hz]) none)

set_option maxRecDepth 10000 in
theorem y_rest (h : repY RL Y S c) (hc : c ≤ 100) {x : Int32} : zPub l D C yX3_rest cX3_rest 5 5 [.int x] Y RL c (sRest S x) := by
  have hI := h.2.1.1
  have hT := h.2.1.2
  have hWb : S.1.1 0 ≤ 6 := hT.1.1
  have hnb : S.1.1 3 ≤ 8 := hT.1.2.2.2.2.1
  have hrb : S.1.1 2 ≤ 10 := hT.1.2.2.2.1
  have e0 : (Y.1 0).1 0 = nI (S.1.1 0) := hI.1.1
  have e3 : (Y.1 0).1 3 = nI (S.1.1 2) := hI.1.2.2.2.1
  have e4 : (Y.1 0).1 4 = nI (S.1.1 3) := hI.1.2.2.2.2.1
  have hR := h.1
  refine zFun_of (by decide) oX3_rest tbX3 (Nat.le_of_ble_eq_true rfl) (fun Z o => ?_)
  by_cases hz : whK x (S.1.1 3) = 0
  · obtain ⟨m, rfl, hm1, hm2, hn0⟩ := wh0 hz
    have hcl : cl (nI m) = m := nI_clamp (by omega)
    have hM := rep_okM hR hI hT hc hm2
    have hA : ∀ f, sRun S (nI m) f = f m := fun f => by rw [sRun, if_pos hz, hcl]
    refine o.run 100 [] ?_
    show Z _ _ _ _
    refine o.cV vX3_151 (c_whyNoRun (x := nI m) hnb e4) (fun w' rv _ hpo => ?_)
    obtain ⟨rfl, rfl⟩ := hpo
    rw [whR_0 hz]
    refine o.run 100 [] ⟨fun _ => ?_, fun q => absurd nI_0 q⟩
    have hrl : ∀ p, p < S.1.1 3 → ruT S.1 p < S.1.1 2 := fun p hp => (hT.2.2.2.1 p hp).1
    let own := gaI RL (Y.1 0) (S.1.1 0) (S.1.1 3) (S.1.1 4) 0 (S.1.1 1) (S.1.1 5) (S.1.2.2.1 0) (S.1.2.2.1 1) (ruT S.1) m
    have eown : own = rGn S.1 (ruT S.1) m := rep_ga hI hT hrl
    show Z _ _ _ _
    refine o.cV (As := [.ref 1, .int (nI m)]) vX3_181 (c_learnOwn (k := 0) (by omega) hM) (fun w' rv _ hpo => ?_)
    obtain ⟨⟨M0, rfl⟩, rfl⟩ := hpo
    have outer : ∀ j p, p + j = S.1.1 3 → fnd2 (gnr S.1 m) (S.1.1 2) j p = fnd2 (gnr S.1 m) (S.1.1 2) (S.1.1 3) 0 → ∀ M x4, Z 27 (yamW 53 (setY (setJ Y 3 M) 0 own) ++ pol 53 RL) [some (.ref 0), some (.int (nI m)), some (.int (nI 0)), some (.int (nI p)), x4] [] := by
      intro j
      induction j with
      | zero =>
        intro p hp hf M x4
        obtain rfl : p = S.1.1 3 := by omega
        have e : sRest S (nI m) = (zi (-9), S) := by
          rw [sRest, hA]
          show (fnd2I (fnd2 (gnr S.1 m) (S.1.1 2) (S.1.1 3) 0), S) = _
          rw [← hf]; rfl
        exact o.run 100 [] ⟨fun _ => ⟨⟨_, rfl, rfl⟩, rfl, ⟨setY (setJ Y 3 M) 0 own, rfl, by rw [e]; exact rep_mono h (Nat.le_succ c)⟩, by rw [e]⟩, fun q => absurd (by show (Y.1 0).1 4 ≤ _; rw [e4]; exact nI_le (Nat.le_refl _) (by omega)) q⟩
      | succ j ih =>
        intro p hp hf M x4
        have hpn : p < S.1.1 3 := by omega
        have inner : ∀ jj r, r + jj = S.1.1 2 → fnd (gnr S.1 m p) jj r = fnd (gnr S.1 m p) (S.1.1 2) 0 → ∀ M, Z 41 (yamW 53 (setY (setJ Y 3 M) 0 own) ++ pol 53 RL) [some (.ref 0), some (.int (nI m)), some (.int (nI 0)), some (.int (nI p)), some (.int (nI r))] [] := by
          intro jj
          induction jj with
          | zero =>
            intro r hr hff M
            obtain rfl : r = S.1.1 2 := by omega
            refine o.run 100 [27] ⟨fun _ => ?_, fun q => absurd (by show (Y.1 0).1 3 ≤ _; rw [e3]; exact nI_le (Nat.le_refl _) (by omega)) q⟩
            have hnone : fnd (gnr S.1 m p) (S.1.1 2) 0 = none := hff.symm
            have := ih (p + 1) (by omega) (by rw [← hf, fnd2, hnone]) M (some (.int (nI (S.1.1 2))))
            rw [← nI_1 p] at this
            exact this
          | succ jj ihh =>
            intro r hr hff M
            have hrn : r < S.1.1 2 := by omega
            obtain ⟨ra, hra⟩ := rep_rule hI hrn
            refine o.run 100 [] ⟨fun q => absurd q (by show ¬ (Y.1 0).1 3 ≤ _; rw [e3]; exact nI_ge (by omega) (by omega)), fun _ => ?_⟩
            show Z _ _ _ _
            refine o.cV (As := [.ref 1, .int (nI p), .int (nI r), .int (nI m)]) vX3_177 (c_broughtBy (Y := setY (setJ Y 3 M) 0 own) (k := 0) (p := p) (r := r) (by omega) hM hpn (by omega) hra) (fun w' rv _ hpo => ?_)
            obtain ⟨⟨M2, rfl⟩, rfl⟩ := hpo
            have eb : gaI RL (Y.1 0) (S.1.1 0) (S.1.1 3) (S.1.1 4) 0 (S.1.1 1) (S.1.1 5) (S.1.2.2.1 0) (S.1.2.2.1 1) (rOne p r (ruT S.1)) m p = rGn S.1 (rOne p r (ruT S.1)) m p := by rw [rep_ga hI hT (rOne_lt hrn hrl)]
            refine o.run 100 [41] ⟨p, rfl, by omega, fun q => ?_, fun q => ?_⟩
            · have q : gaI RL (Y.1 0) (S.1.1 0) (S.1.1 3) (S.1.1 4) 0 (S.1.1 1) (S.1.1 5) (S.1.2.2.1 0) (S.1.2.2.1 1) (rOne p r (ruT S.1)) m p ≤ own p := q
              rw [eb, eown] at q
              have hg : gnr S.1 m p r = false := decide_eq_false (Int32.not_lt.mpr q)
              have := ihh (r + 1) (by omega) (by rw [← hff, fnd, hg]; rfl) M2
              rw [← nI_1 r] at this
              exact this
            · have q : ¬ gaI RL (Y.1 0) (S.1.1 0) (S.1.1 3) (S.1.1 4) 0 (S.1.1 1) (S.1.1 5) (S.1.2.2.1 0) (S.1.2.2.1 1) (rOne p r (ruT S.1)) m p ≤ own p := q
              rw [eb, eown] at q
              have hg : gnr S.1 m p r = true := decide_eq_true (Int32.not_le.mp q)
              have hsome : fnd (gnr S.1 m p) (S.1.1 2) 0 = some r := by rw [← hff, fnd, if_pos hg]
              have e : sRest S (nI m) = (nI (10 * p + r), S) := by
                rw [sRest, hA]
                show (fnd2I (fnd2 (gnr S.1 m) (S.1.1 2) (S.1.1 3) 0), S) = _
                rw [← hf, fnd2, hsome]; rfl
              have e10 : nI 10 * nI p + nI r = nI (10 * p + r) := by rw [pk_mul, nI_add]
              refine ⟨⟨_, rfl, rfl⟩, rfl, ⟨setY (setJ Y 3 M2) 0 own, rfl, by rw [e]; exact rep_mono h (Nat.le_succ c)⟩, ?_⟩
              rw [e]
              show some (Value.int (nI 10 * nI p + nI r)) = _
              rw [e10]
        refine o.run 100 [41] ⟨fun q => absurd q (by show ¬ (Y.1 0).1 4 ≤ _; rw [e4]; exact nI_ge (by omega) (by omega)), fun _ => ?_⟩
        exact inner (S.1.1 2) 0 (by omega) rfl M
    exact o.run 100 [27] (outer (S.1.1 3) 0 (by omega) rfl M0 none)
  · obtain ⟨hk1, hkp, hk7, hk0⟩ := whR_k hz
    refine o.run 100 [] ?_
    show Z _ _ _ _
    refine o.cV vX3_151 (c_whyNoRun (x := x) hnb e4) (fun w' rv _ hpo => ?_)
    obtain ⟨rfl, rfl⟩ := hpo
    rw [hk1]
    refine o.run 100 [] ⟨fun q => absurd q hk0, fun _ => ?_⟩
    show Z _ _ _ _
    refine o.cV vX3_48 (c_refuse (k := (whK x (S.1.1 3))) hkp hk7) (fun w' rv _ hpo => ?_)
    obtain ⟨rfl, rfl⟩ := hpo
    exact o.run 100 [] (pret (A' := sRf S (whK x (S.1.1 3))) (by rw [sRest, sRun, if_neg hz]) _ (rep_rf h (whK x (S.1.1 3))))

set_option maxRecDepth 10000 in
theorem y_part (h : repY RL Y S c) (hc : c ≤ 100) {a b w x : Int32} : zPub l D C yX3_part cX3_part 6 7 [.int a, .int b, .int w, .int x] Y RL c (sPart S a b w x) := by
  have hI := h.2.1.1
  have hT := h.2.1.2
  have hWb : S.1.1 0 ≤ 6 := hT.1.1
  have hnb : S.1.1 3 ≤ 8 := hT.1.2.2.2.2.1
  have hrb : S.1.1 2 ≤ 10 := hT.1.2.2.2.1
  have e0 : (Y.1 0).1 0 = nI (S.1.1 0) := hI.1.1
  have e3 : (Y.1 0).1 3 = nI (S.1.1 2) := hI.1.2.2.2.1
  have e4 : (Y.1 0).1 4 = nI (S.1.1 3) := hI.1.2.2.2.2.1
  have hR := h.1
  refine zFun_of (by decide) oX3_part tbX3 (Nat.le_of_ble_eq_true rfl) (fun Z o => ?_)
  have bad : (isN a (S.1.1 2) && isN b (S.1.1 2)) = false → Z 18 (yamW 53 Y ++ pol 53 RL) [some (.ref 0), some (.int a), some (.int b), some (.int w), some (.int x), none] [.int (zi (-1)), .ref 0] := fun hf => by
    refine o.cV vX3_48 (c_refuse (k := 1) (by omega) (by omega)) (fun w' rv _ hpo => ?_)
    obtain ⟨rfl, rfl⟩ := hpo
    exact o.run 100 [] (pret (A' := sRf S 1) (by rw [sPart, hf]; rfl) _ (rep_rf h 1))
  refine o.run 100 [] ?_
  show Z _ _ _ _
  refine o.cV vX3_111 (c_isRule (x := a) e3) (fun w' rv _ hpo => ?_)
  obtain ⟨rfl, rfl⟩ := hpo
  refine o.run 100 [18] ⟨fun q => bad (by rw [(zB_0 _).mp q]; rfl), fun q => ?_⟩
  have ha := zB_t q
  show Z _ _ _ _
  refine o.cV vX3_111 (c_isRule (x := b) e3) (fun w' rv _ hpo => ?_)
  obtain ⟨rfl, rfl⟩ := hpo
  refine o.run 100 [18, 22] ⟨fun q => ?_, fun q => bad (by rw [(zB_0 _).mp q, Bool.and_false])⟩
  have hb := zB_t q
  have hab : (isN a (S.1.1 2) && isN b (S.1.1 2)) = true := by rw [ha, hb]; rfl
  obtain ⟨ea, hal⟩ := isN_cl (by omega) ha
  obtain ⟨eb, hbl⟩ := isN_cl (by omega) hb
  show Z 22 (yamW 53 Y ++ pol 53 RL) [some (.ref 0), some (.int a), some (.int b), some (.int w), some (.int x), none] []
  have refu : ∀ k, 0 < k → k < 7 → ¬ -(nI k) = 0 → sPart S a b w x = sRf S k → Z 44 (yamW 53 Y ++ pol 53 RL) [some (.ref 0), some (.int a), some (.int b), some (.int w), some (.int x), some (.int (-(nI k)))] [] := fun k hk hk7 hk0 e => by
    refine o.run 100 [] ⟨fun q => absurd q hk0, fun _ => ?_⟩
    show Z _ _ _ _
    refine o.cV vX3_48 (c_refuse (k := k) hk hk7) (fun w' rv _ hpo => ?_)
    obtain ⟨rfl, rfl⟩ := hpo
    exact o.run 100 [] (pret (A' := sRf S k) (e) _ (rep_rf h k))
  have spec : ∀ kz, (w = nI 0 ∧ kz = 0) ∨ (w = nI 1 ∧ kz = 1) → ∀ f0 f1, sPart S a b w x = (if kz = 0 then sRun S x f0 else sRun S x f1) → True := fun _ _ _ _ _ => trivial
  have run : (w = 0 ∨ w = nI 1) → Z 34 (yamW 53 Y ++ pol 53 RL) [some (.ref 0), some (.int a), some (.int b), some (.int w), some (.int x), none] [.int x, .ref 0] := fun hw => by
    refine o.cV vX3_151 (c_whyNoRun (x := x) hnb e4) (fun w' rv _ hpo => ?_)
    obtain ⟨rfl, rfl⟩ := hpo
    by_cases hz : whK x (S.1.1 3) = 0
    · obtain ⟨m, rfl, hm1, hm2, hn0⟩ := wh0 hz
      have hcl : cl (nI m) = m := nI_clamp (by omega)
      have hA : ∀ f, sRun S (nI m) f = f m := fun f => by rw [sRun, if_pos hz, hcl]
      have hM := rep_okM hR hI hT hc hm2
      obtain ⟨an, han⟩ : ∃ k, k = cl a := ⟨_, rfl⟩
      obtain ⟨bn, hbn⟩ : ∃ k, k = cl b := ⟨_, rfl⟩
      rw [← han] at ea hal
      rw [← hbn] at eb hbl
      subst ea eb
      obtain ⟨ra, hra⟩ := rep_rule hI hal
      obtain ⟨rb, hrb2⟩ := rep_rule hI hbl
      have efr : ∀ k, frI RL (Y.1 0) (S.1.1 0) (S.1.1 3) (S.1.1 4) 0 (S.1.1 1) (S.1.1 5) (S.1.2.2.1 0) (S.1.2.2.1 1) (rPart (S.1.1 3) an bn k (ruT S.1)) m = rFn S.1 (rPart (S.1.1 3) an bn k (ruT S.1)) m := fun k => rep_fr hI hT (rPart_lt hal hbl)
      rw [whR_0 hz]
      refine o.run 100 [] ⟨fun _ => ⟨fun q => ?_, fun q => ?_⟩, fun q => absurd nI_0 q⟩
      · have q : ¬ w = 0 := q
        have hw1 : w = nI 1 := hw.resolve_left q
        show Z _ _ _ _
        refine o.cV vX3_191 (c_partAtRest (a := an) (b := bn) hM (by omega) (by omega) hra hrb2) (fun w' rv _ hpo => ?_)
        obtain ⟨⟨P, M, g, rfl⟩, rfl⟩ := hpo
        have eg : (fun k => allN (nbG RL (Y.1 0) (S.1.1 0) (S.1.1 3) (S.1.1 4) 0 (S.1.1 1) (S.1.1 5) (S.1.2.2.1 0) (S.1.2.2.1 1) (rPart (S.1.1 3) an bn k (ruT S.1)) an bn k m) (S.1.1 3)) = (fun k => allN (nbT S.1 an bn m k) (S.1.1 3)) := by
          funext k
          refine allN_congr (fun p hp => ?_)
          unfold nbG nbT
          rw [rep_ga hI hT (rPart_lt hal hbl), rep_ga hI hT (rOne_lt (by split <;> assumption) (rPart_lt hal hbl))]
        have e : sPart S (nI an) (nI bn) w (nI m) = (fndI (fnd (fun k => allN (nbG RL (Y.1 0) (S.1.1 0) (S.1.1 3) (S.1.1 4) 0 (S.1.1 1) (S.1.1 5) (S.1.2.2.1 0) (S.1.2.2.1 1) (rPart (S.1.1 3) an bn k (ruT S.1)) an bn k m) (S.1.1 3)) (S.1.1 3 + 1) 0), S) := by
          rw [sPart, if_pos hab, if_neg (by rw [hw1]; decide), if_pos hw1, hA, ← han, ← hbn, eg]
        exact o.run 100 [] ⟨⟨_, rfl, rfl⟩, rfl, ⟨setY (setJ (setJ Y 2 P) 3 M) 0 g, rfl, by rw [e]; exact rep_mono h (Nat.le_succ c)⟩, by rw [e]⟩
      · have q : w = 0 := q
        show Z _ _ _ _
        refine o.cV vX3_188 (c_bestPart (a := an) (b := bn) hM (by omega) (by omega) hra hrb2 (by rw [efr]; exact rF_pos hT hm2 _ _ _ _ _)) (fun w' rv _ hpo => ?_)
        obtain ⟨⟨M, rfl⟩, rfl⟩ := hpo
        have e : sPart S (nI an) (nI bn) w (nI m) = (nI (amx (fun k => frI RL (Y.1 0) (S.1.1 0) (S.1.1 3) (S.1.1 4) 0 (S.1.1 1) (S.1.1 5) (S.1.2.2.1 0) (S.1.2.2.1 1) (rPart (S.1.1 3) an bn k (ruT S.1)) m) (S.1.1 3)), S) := by
          rw [sPart, if_pos hab, if_pos (by rw [q]; exact nI_0.symm), hA, ← han, ← hbn]
          have : (fun k => frI RL (Y.1 0) (S.1.1 0) (S.1.1 3) (S.1.1 4) 0 (S.1.1 1) (S.1.1 5) (S.1.2.2.1 0) (S.1.2.2.1 1) (rPart (S.1.1 3) an bn k (ruT S.1)) m) = (fun k => rFn S.1 (rPart (S.1.1 3) an bn k (ruT S.1)) m) := funext efr
          rw [this]
        exact o.run 100 [] ⟨⟨_, rfl, rfl⟩, rfl, ⟨setJ Y 3 M, rfl, by rw [e]; exact rep_mono h (Nat.le_succ c)⟩, by rw [e]⟩
    · obtain ⟨hk1, hkp, hk7, hk0⟩ := whR_k hz
      rw [hk1]
      refine o.run 100 [44] (refu _ hkp hk7 hk0 ?_)
      rw [sPart, if_pos hab]
      rcases hw with hw | hw
      · rw [if_pos (by rw [hw]; exact nI_0.symm), sRun, if_neg hz]
      · rw [if_neg (by rw [hw]; decide), if_pos hw, sRun, if_neg hz]
  refine o.run 100 [34, 44] ⟨fun q => run (Or.inl q), fun q => ⟨fun q2 => refu 2 (by omega) (by omega) (by decide) ?_, fun q2 => run (Or.inr q2)⟩⟩
  rw [sPart, if_pos hab, if_neg (fun z => q (by rw [z]; exact nI_0)), if_neg (show ¬ w = nI 1 from q2)]

end PUB3
