/-! the reference's reader -/
def tkM (M : zM) (p : Nat) (b : Bool) : zM := mN (mN M 22 (zB (!b))) 20 (nI (if b then p + 1 else p))
theorem nar_b (b : Bool) : vp_nar .boolean (zB b) = zB b := by cases b <;> decide +kernel
theorem zB_or (b : Bool) : zB b = 0 ∨ zB b = 1 := by cases b <;> decide
section MR
variable {l : Launch} {D : va_G} {C : zC} {M : zM} {f : Nat → Int32} {len p kn op base : Nat}
set_option maxRecDepth 10000 in
theorem m_here (hl : len ≤ 24) (hp : p ≤ 100) (e12 : M.2 12 = f) (e20 : M.1 20 = nI p) (e21 : M.1 21 = nI len) : zFun l D C yX4_here cX4_here 1 (some .int) (zR 0) [.ref 0] (mdW 0 M) (fun w rv => w = mdW 0 M ∧ rv = some (.int (hrC f len p))) := by
  refine zFun_of (by decide) oX4_here tbX4 (Nat.le_of_ble_eq_true rfl) (fun Z o => ?_)
  by_cases h : p < len
  · refine o.run 100 [] ⟨fun _ => ⟨p, e20, by omega, ⟨_, rfl, rfl⟩, rfl, rfl, ?_⟩, fun q => absurd (show M.1 20 < M.1 21 by rw [e20, e21]; exact nI_lt h (by omega)) q⟩
    unfold hrC; rw [if_pos h, e12]
  · refine o.run 100 [] ⟨fun q => absurd (show M.1 20 < M.1 21 from q) (by rw [e20, e21, nI_ltI (by omega) (by omega)]; exact h), fun _ => ⟨⟨_, rfl, rfl⟩, rfl, rfl, ?_⟩⟩
    unfold hrC; rw [if_neg h]
set_option maxRecDepth 10000 in
theorem m_take {k : Nat} {bb : Bool} (hl : len ≤ 24) (hp : p ≤ 100) (e12 : M.2 12 = f) (e20 : M.1 20 = nI p) (e21 : M.1 21 = nI len) (e22 : M.1 22 = zB bb) : zFun l D C yX4_take cX4_take 2 none (zR 1) [.ref 0, .int (nI k)] (mdW 0 M) (fun w rv => w = mdW 0 (tkM M p (!bb && decide (hrC f len p = nI k))) ∧ rv = none) := by
  refine zFun_of (by decide) oX4_take tbX4 (Nat.le_of_ble_eq_true rfl) (fun Z o => ?_)
  have fin : ∀ b : Bool, b = (!bb && decide (hrC f len p = nI k)) → Z 21 (mdW 0 M) [some (.ref 0), some (.int (nI k))] [.int (zB (!b)), .ref 0] := fun b hb => by
    rw [← hb] at o
    cases b with
    | true =>
      refine o.run 100 [] ⟨zB_or _, fun _ => ⟨rfl, rfl, ?_, rfl⟩, fun q => absurd (show zB false = 0 by decide) q⟩
      show mdW 0 (mN (mN M 22 (zB false)) 20 (M.1 20 + nI 1)) = _
      rw [e20, nI_add]; rfl
    | false =>
      refine o.run 100 [] ⟨zB_or _, fun q => absurd (show zB true = 0 from q) (by decide), fun _ => ⟨rfl, rfl, ?_, rfl⟩⟩
      show mdW 0 (mN (mN M 22 (zB true)) 20 (M.1 20 + nI 0)) = _
      rw [e20, nI_add]; rfl
  refine o.run 100 [16] ⟨fun q => ?_, fun q => ?_⟩
  · have q : ¬ M.1 22 = 0 := q
    rw [e22] at q
    have hb := zB_t q
    exact o.run 100 [21] (fin false (by rw [hb]; rfl))
  · have q : M.1 22 = 0 := q
    rw [e22] at q
    have hb := (zB_0 _).mp q
    show Z 9 (mdW 0 M) _ [.ref 0, .ref 0]
    refine o.cV (rest := [.ref 0]) vX4_123 (m_here hl hp e12 e20 e21) (fun w' rv _ hpo => ?_)
    obtain ⟨rfl, rfl⟩ := hpo
    refine o.run 100 [16, 21] ⟨fun q2 => fin true ?_, fun q2 => ?_⟩
    · rw [hb, decide_eq_true q2]; rfl
    · exact o.run 100 [21] (fin false (by rw [hb, decide_eq_false q2]; rfl))
theorem rdN_0 {p : Nat} : (rdN f len p).2 = 0 ↔ ¬ (dgC (hrC f len p) = true ∧ ¬ hrC f len p = nI 48) := by
  unfold rdN
  split
  · rename_i hc
    obtain ⟨h1, k, k1, k2, e⟩ := dg_lt hc.1
    have hk : k ≠ 48 := fun z => hc.2 (by rw [e, z])
    have ek : cl (nI k) = k := nI_clamp (by omega)
    have : ¬ cl (hrC f len p) - 48 = 0 := by rw [e, ek]; omega
    split
    · exact ⟨fun z => by have z : 10 * (cl (hrC f len p) - 48) + (cl (hrC f len (p + 1)) - 48) = 0 := z; omega, fun z => absurd hc z⟩
    · exact ⟨fun z => absurd z this, fun z => absurd hc z⟩
  · rename_i hc
    exact ⟨fun _ => hc, fun _ => rfl⟩
set_option maxRecDepth 10000 in
theorem m_readNumber (hl : len ≤ 24) (hp : p ≤ 50) (e12 : M.2 12 = f) (e20 : M.1 20 = nI p) (e21 : M.1 21 = nI len) (e22 : M.1 22 = nI 0) : zFun l D C yX4_readNumber cX4_readNumber 2 (some .int) (zR 1) [.ref 0] (mdW 0 M) (fun w rv => w = mdW 0 (mN (mN M 22 (zB (decide ((rdN f len p).2 = 0)))) 20 (nI (rdN f len p).1)) ∧ rv = some (.int (nI (rdN f len p).2))) := by
  refine zFun_of (by decide) oX4_readNumber tbX4 (Nat.le_of_ble_eq_true rfl) (fun Z o => ?_)
  refine o.run 100 [16] ⟨fun q => absurd (show M.1 22 = 0 by rw [e22]; exact nI_0) q, fun _ => ?_⟩
  show Z 9 (mdW 0 M) _ [.ref 0, .ref 0]
  refine o.cV (rest := [.ref 0]) vX4_123 (m_here hl (by omega) e12 e20 e21) (fun w' rv _ hpo => ?_)
  obtain ⟨rfl, rfl⟩ := hpo
  refine o.run 100 [] ?_
  show Z 19 (mdW 0 M) _ [.long 57, .long 49, .long (hrC f len p).toInt64, .ref 0]
  refine o.cS (rest := [.ref 0]) vX4_84 (m_in (x := (hrC f len p).toInt64) (a := lN 49) (b := lN 57)) (fun rv hpo => ?_)
  subst hpo
  have hi := in_lit (x := hrC f len p) (a := 49) (b := 57) (by omega) (by omega)
  have hdg : (nI 49 ≤ hrC f len p ∧ hrC f len p ≤ nI 57) ↔ (dgC (hrC f len p) = true ∧ ¬ hrC f len p = nI 48) := by
    constructor
    · intro z
      have h0 : ¬ hrC f len p < 0 := fun q => Int32.not_le.mpr (Int32.lt_trans q (by decide : (0 : Int32) < nI 49)) z.1
      obtain ⟨k, hk, e⟩ := nI_of h0
      rw [e, nI_leI (by omega) (by omega), nI_leI (by omega) (by omega)] at z
      rw [e]
      refine ⟨decide_eq_true ⟨?_, ?_⟩, nI_ne (by omega) (by omega) (by omega)⟩
      · rw [nI_ltI (by omega) (by omega)]; omega
      · rw [nI_ltI (by omega) (by omega)]; omega
    · rintro ⟨z1, z2⟩
      obtain ⟨h1, k, k1, k2, e⟩ := dg_lt z1
      have hk : k ≠ 48 := fun z => z2 (by rw [e, z])
      rw [e, nI_leI (by omega) (by omega), nI_leI (by omega) (by omega)]
      omega
  refine o.run 100 [33] ⟨fun q => ⟨Or.inl (by decide), ?_⟩, fun q => ⟨Or.inr (by decide), ?_⟩⟩
  · have hc := hdg.mp (hi.mp (of_decide_eq_true (zB_t q)))
    have hn0 : ¬ (rdN f len p).2 = 0 := fun z => rdN_0.mp z hc
    obtain ⟨h1, k, k1, k2, e⟩ := dg_lt hc.1
    have ek : cl (nI k) = k := nI_clamp (by omega)
    rw [decide_eq_false hn0] at o
    show Z 33 (mdW 0 (mN M 22 (nI 0))) [some (.ref 0), none] []
    refine o.run 100 [] ⟨fun _ => ?_, fun q => absurd (show nI 0 = 0 from nI_0) q⟩
    show Z 43 (mdW 0 (mN M 22 (nI 0))) _ [.ref 0]
    refine o.cV vX4_123 (m_here (M := mN M 22 (nI 0)) hl (by omega) e12 e20 e21) (fun w' rv _ hpo => ?_)
    obtain ⟨rfl, rfl⟩ := hpo
    refine o.run 100 [] ?_
    show Z 61 (mdW 0 (mN (mN M 22 (nI 0)) 20 (M.1 20 + nI 1))) [some (.ref 0), some (.int (hrC f len p - nI 48))] [.ref 0]
    rw [e20, nI_add, e, pk_sub k1]
    refine o.cV vX4_123 (m_here (M := mN (mN M 22 (nI 0)) 20 (nI (p + 1))) (p := p + 1) hl (by omega) e12 rfl e21) (fun w' rv _ hpo => ?_)
    obtain ⟨rfl, rfl⟩ := hpo
    refine o.run 100 [] ?_
    show Z 71 (mdW 0 (mN (mN M 22 (nI 0)) 20 (nI (p + 1)))) [some (.ref 0), some (.int (nI (k - 48)))] [.long 57, .long 48, .long (hrC f len (p + 1)).toInt64]
    refine o.cS vX4_84 (m_in (x := (hrC f len (p + 1)).toInt64) (a := lN 48) (b := lN 57)) (fun rv hpo => ?_)
    subst hpo
    have hi2 := in_lit (x := hrC f len (p + 1)) (a := 48) (b := 57) (by omega) (by omega)
    have hd2 : (nI 48 ≤ hrC f len (p + 1) ∧ hrC f len (p + 1) ≤ nI 57) ↔ dgC (hrC f len (p + 1)) = true := by
      unfold dgC
      rw [decide_eq_true_eq]
      exact ⟨fun z => ⟨Int32.not_lt.mpr z.1, Int32.not_lt.mpr z.2⟩, fun z => ⟨Int32.not_lt.mp z.1, Int32.not_lt.mp z.2⟩⟩
    refine o.run 100 [77, 100] ⟨fun q => ?_, fun q => ?_⟩
    · have hnd : ¬ dgC (hrC f len (p + 1)) = true := fun z => of_decide_eq_false ((zB_0 _).mp q) (hi2.mpr (hd2.mpr z))
      have er : rdN f len p = (p + 1, k - 48) := by unfold rdN; rw [if_pos hc, if_neg hnd, e, ek]
      refine o.run 100 [] ⟨⟨_, rfl, rfl⟩, rfl, ?_, ?_⟩
      · rw [er]; rfl
      · rw [er]
    · have hd := hd2.mp (hi2.mp (of_decide_eq_true (zB_t q)))
      obtain ⟨h3, k', k3, k4, e3⟩ := dg_lt hd
      have ek' : cl (nI k') = k' := nI_clamp (by omega)
      have er : rdN f len p = (p + 2, 10 * (k - 48) + (k' - 48)) := by unfold rdN; rw [if_pos hc, if_pos hd, e, e3, ek, ek']
      refine o.run 100 [] ?_
      show Z 82 (mdW 0 (mN (mN M 22 (nI 0)) 20 (nI (p + 1)))) [some (.ref 0), some (.int (nI (k - 48)))] [.ref 0, .int (nI 10 * nI (k - 48))]
      refine o.cV (rest := [.int (nI 10 * nI (k - 48))]) vX4_123 (m_here (M := mN (mN M 22 (nI 0)) 20 (nI (p + 1))) (p := p + 1) hl (by omega) e12 rfl e21) (fun w' rv _ hpo => ?_)
      obtain ⟨rfl, rfl⟩ := hpo
      refine o.run 100 [] ⟨⟨_, rfl, rfl⟩, rfl, ?_, ?_⟩
      · show mdW 0 (mN (mN M 22 (nI 0)) 20 (nI (p + 1) + nI 1)) = _
        rw [nI_add, er]; rfl
      · show some (Value.int (nI 10 * nI (k - 48) + hrC f len (p + 1) - nI 48)) = _
        rw [e3, pk_mul, nI_add, pk_sub (by omega), er]
        congr 2
        show nI _ = nI _
        congr 1
        omega
  · have hc : ¬ (dgC (hrC f len p) = true ∧ ¬ hrC f len p = nI 48) := fun z => of_decide_eq_false ((zB_0 _).mp q) (hi.mpr (hdg.mpr z))
    have h0 := rdN_0.mpr hc
    have er : rdN f len p = (p, 0) := by unfold rdN; rw [if_neg hc]
    show Z 33 (mdW 0 (mN M 22 (nI 1))) [some (.ref 0), none] []
    refine o.run 100 [] ⟨fun q => absurd (show nI 1 = 0 from q) (by decide), fun _ => ⟨⟨_, rfl, rfl⟩, rfl, ?_, ?_⟩⟩
    · rw [decide_eq_true h0, er, ← e20]; rfl
    · rw [h0]; rfl
def nkM (M : zM) (i kn : Nat) (kd k : Int32) : zM := mN (mR (mR M 8 (upd (M.2 8) i kd)) 9 (upd (M.2 9) i k)) 23 (nI (kn + 1))
set_option maxRecDepth 10000 in
theorem m_newKnot {kd k : Int32} (hb : base + kn < 240) (e23 : M.1 23 = nI kn) : zFun l D C yX4_newKnot cX4_newKnot 4 (some .int) (zR 0) [.ref 0, .int (nI base), .int kd, .int k] (mdW 0 M) (fun w rv => w = mdW 0 (nkM M (base + kn) kn kd k) ∧ rv = some (.int (nI (base + kn)))) := by
  refine zFun_of (by decide) oX4_newKnot tbX4 (Nat.le_of_ble_eq_true rfl) (fun Z o => ?_)
  have ei : nI base + M.1 23 = nI (base + kn) := by rw [e23, nI_add]
  refine o.run 100 [] ⟨base + kn, ei, hb, base + kn, ei, hb, ⟨_, rfl, rfl⟩, rfl, ?_, ?_⟩
  · show mdW 0 (mN (mR (mR M 8 (upd (M.2 8) (base + kn) kd)) 9 (upd (M.2 9) (base + kn) k)) 23 (M.1 23 + nI 1)) = _
    rw [e23, nI_add]; rfl
  · show some (Value.int (nI base + (M.1 23 + nI 1) - nI 1)) = _
    rw [e23, nI_add, nI_add, pk_sub (by omega)]; rfl
end MR
