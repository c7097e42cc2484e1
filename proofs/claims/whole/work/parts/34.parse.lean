/-! how a rule's text is read: without any machine; the class's reader -/
def hrC (f : Nat → Int32) (len p : Nat) : Int32 := if p < len then f p else zi (-1)
def dgC (x : Int32) : Bool := decide (¬ x < nI 48 ∧ ¬ nI 57 < x)
def rdN (f : Nat → Int32) (len p : Nat) : Nat × Nat := if dgC (hrC f len p) = true ∧ ¬ hrC f len p = nI 48 then (if dgC (hrC f len (p + 1)) = true then (p + 2, 10 * (cl (hrC f len p) - 48) + (cl (hrC f len (p + 1)) - 48)) else (p + 1, cl (hrC f len p) - 48)) else (p, 0)
abbrev zDn : Type := Int32 → Int32 × Nat
def pS (f : Nat → Int32) (len p : Nat) (alt : Nat × Option zDn) : Nat × Option zDn :=
  if hrC f len p = nI 115 ∨ hrC f len p = nI 98 ∨ hrC f len p = nI 109 ∨ hrC f len p = nI 110 then (p + 1, some (fun _ => (hrC f len p, 0)))
  else if hrC f len p = nI 116 then (if (rdN f len (p + 1)).2 = 0 then ((rdN f len (p + 1)).1, none) else ((rdN f len (p + 1)).1, some (fun _ => (nI 116, (rdN f len (p + 1)).2))))
  else if hrC f len p = nI 40 then alt else (p, none)
/-- behind an opened bracket at p, R reads what is inside -/
def pM (f : Nat → Int32) (len : Nat) (R : Nat → Nat × Option zDn) (p : Nat) : Nat × Option zDn :=
  if (rdN f len (p + 1)).2 = 0 then ((rdN f len (p + 1)).1, none)
  else if hrC f len (rdN f len (p + 1)).1 = nI 63 then (match R ((rdN f len (p + 1)).1 + 1) with
    | (p2, none) => (p2, none)
    | (p2, some a) => if hrC f len p2 = nI 58 then (match R (p2 + 1) with
      | (p3, none) => (p3, none)
      | (p3, some b) => if hrC f len p3 = nI 41 then (p3 + 1, some (fun x => if x < nI (rdN f len (p + 1)).2 then a x else b x)) else (p3, none))
      else (p2, none))
  else ((rdN f len (p + 1)).1, none)
def pR (f : Nat → Int32) (len : Nat) : Nat → Nat → Nat × Option zDn
  | 0, p => pS f len p (p, none)
  | d + 1, p => pS f len p (pM f len (pR f len d) p)
theorem hr_lt {f : Nat → Int32} {len p k : Nat} (hk : k < 2 ^ 31) (h : hrC f len p = nI k) : p < len := by
  unfold hrC at h
  split at h
  · assumption
  · exact absurd h (fun e => by
      have : zi (-1) < 0 := by decide
      rw [e] at this
      exact nI_pos hk this)
theorem dg_lt {f : Nat → Int32} {len p : Nat} (h : dgC (hrC f len p) = true) : p < len ∧ ∃ k, 48 ≤ k ∧ k ≤ 57 ∧ hrC f len p = nI k := by
  have h2 := of_decide_eq_true h
  have h0 : ¬ hrC f len p < 0 := fun q => h2.1 (Int32.lt_trans q (by decide))
  obtain ⟨k, hk, e⟩ := nI_of h0
  refine ⟨hr_lt hk e, k, ?_, ?_, e⟩
  · have := h2.1; rw [e, nI_ltI hk (by omega)] at this; omega
  · have := h2.2; rw [e, nI_ltI (by omega) hk] at this; omega
theorem rdN_le {f : Nat → Int32} {len p : Nat} (h : p ≤ len) : (rdN f len p).1 ≤ len ∧ (rdN f len p).2 < 100 := by
  unfold rdN
  split
  · rename_i hc
    obtain ⟨h1, k, k1, k2, e⟩ := dg_lt hc.1
    have e2 : cl (nI k) = k := nI_clamp (by omega)
    split
    · rename_i hc2
      obtain ⟨h3, k', k3, k4, e3⟩ := dg_lt hc2
      have e4 : cl (nI k') = k' := nI_clamp (by omega)
      rw [e, e3]
      show p + 2 ≤ len ∧ 10 * (cl (nI k) - 48) + (cl (nI k') - 48) < 100
      rw [e2, e4]; omega
    · rw [e]
      show p + 1 ≤ len ∧ cl (nI k) - 48 < 100
      rw [e2]; omega
  · exact ⟨h, by show (0 : Nat) < 100; omega⟩
theorem pS_le {f : Nat → Int32} {len p : Nat} {alt : Nat × Option zDn} (h : p ≤ len) (ha : hrC f len p = nI 40 → alt.1 ≤ len) : (pS f len p alt).1 ≤ len := by
  unfold pS
  split
  · rename_i hc
    show p + 1 ≤ len
    rcases hc with e | e | e | e <;> exact hr_lt (by omega) e
  · split
    · rename_i hc
      have := (rdN_le (f := f) (hr_lt (by omega) hc)).1
      split <;> exact this
    · split
      · rename_i hc
        exact ha hc
      · exact h
theorem pM_le {f : Nat → Int32} {len p : Nat} {R : Nat → Nat × Option zDn} (hR : ∀ p, p ≤ len → (R p).1 ≤ len) (hp : p < len) : (pM f len R p).1 ≤ len := by
  have h1 := (rdN_le (f := f) (len := len) (p := p + 1) hp).1
  unfold pM
  split
  · exact h1
  · split
    · rename_i hq
      have h2 := hR _ (hr_lt (by omega) hq)
      split
      · rename_i p2 e2
        rw [e2] at h2; exact h2
      · rename_i p2 a e2
        rw [e2] at h2
        split
        · rename_i hq2
          have h3 := hR _ (hr_lt (by omega) hq2)
          split
          · rename_i p3 e3
            rw [e3] at h3; exact h3
          · rename_i p3 b e3
            split
            · rename_i hq3
              exact hr_lt (by omega) hq3
            · rw [e3] at h3; exact h3
        · exact h2
    · exact h1
theorem pR_le {f : Nat → Int32} {len : Nat} : ∀ d p, p ≤ len → (pR f len d p).1 ≤ len
  | 0, p, h => pS_le h (fun _ => h)
  | d + 1, p, h => pS_le h (fun e => pM_le (pR_le d) (hr_lt (by omega) e))
-- lists of rules
def shR (k : Nat) (NL : List zRu) : List zRu := NL.map (fun u => (u.1, u.2.1, u.2.2.1.map (fun i => i + k), u.2.2.2.map (fun i => i + k)))
theorem shR_len (k : Nat) (NL : List zRu) : (shR k NL).length = NL.length := by simp [shR]
theorem shR_at (k : Nat) (NL : List zRu) (i : Nat) : (shR k NL)[i]? = (NL[i]?).map (fun u => (u.1, u.2.1, u.2.2.1.map (fun i => i + k), u.2.2.2.map (fun i => i + k))) := by simp [shR]
theorem pol_app (b : Nat) (P NL : List zRu) : pol b (P ++ shR P.length NL) = pol b P ++ pol (b + P.length) NL := by
  unfold pol shR
  rw [List.map_append, List.map_map]
  congr 1
  refine List.map_congr_left (fun u _ => ?_)
  obtain ⟨s, n, o1, o2⟩ := u
  have e : ∀ o : Option Nat, (o.map (fun i => i + P.length)).map (fun i => i + b) = o.map (fun i => i + (b + P.length)) := fun o => by
    cases o with
    | none => rfl
    | some a =>
      show some (a + P.length + b) = some (a + (b + P.length))
      congr 1; omega
  show (Sum.inr (Sum.inr (2, [.int s, .int n, va_rf ((o1.map (fun i => i + P.length)).map (fun i => i + b)), va_rf ((o2.map (fun i => i + P.length)).map (fun i => i + b))])) : zE) = _
  rw [e, e]
theorem okR_app {P NL : List zRu} (hP : okR P) (hN : okR NL) : okR (P ++ shR P.length NL) := by
  refine ⟨fun i u hu => ?_, fun i u hu => ?_⟩
  · rw [List.length_append, shR_len]
    rw [List.getElem?_append] at hu
    split at hu
    · have := hP.1 i u hu
      exact ⟨fun a h => Nat.lt_of_lt_of_le (this.1 a h) (Nat.le_add_right _ _), fun a h => Nat.lt_of_lt_of_le (this.2 a h) (Nat.le_add_right _ _)⟩
    · rw [shR_at] at hu
      obtain ⟨v, hv, rfl⟩ := Option.map_eq_some_iff.mp hu
      have := hN.1 _ v hv
      constructor
      · intro a h
        obtain ⟨a', ha', rfl⟩ := Option.map_eq_some_iff.mp (show v.2.2.1.map (fun i => i + P.length) = some a from h)
        have := this.1 a' ha'
        omega
      · intro a h
        obtain ⟨a', ha', rfl⟩ := Option.map_eq_some_iff.mp (show v.2.2.2.map (fun i => i + P.length) = some a from h)
        have := this.2 a' ha'
        omega
  · rw [List.getElem?_append] at hu
    split at hu
    · exact hP.2 i u hu
    · rw [shR_at] at hu
      obtain ⟨v, hv, rfl⟩ := Option.map_eq_some_iff.mp hu
      exact hN.2 _ v hv
theorem okR_one {P : List zRu} {u : zRu} (hP : okR P) (h1 : ∀ a, u.2.2.1 = some a → a < P.length) (h2 : ∀ a, u.2.2.2 = some a → a < P.length) (h3 : ∃ K, K < 100 ∧ u.2.1 = nI K) : okR (P ++ [u]) := by
  refine ⟨fun i v hv => ?_, fun i v hv => ?_⟩
  · rw [List.length_append]
    rw [List.getElem?_append] at hv
    split at hv
    · have := hP.1 i v hv
      exact ⟨fun a h => Nat.lt_of_lt_of_le (this.1 a h) (Nat.le_add_right _ _), fun a h => Nat.lt_of_lt_of_le (this.2 a h) (Nat.le_add_right _ _)⟩
    · have hz : i - P.length < 1 := (List.getElem?_eq_some_iff.mp hv).1
      rw [show i - P.length = 0 by omega] at hv
      cases hv
      exact ⟨fun a h => Nat.lt_of_lt_of_le (h1 a h) (Nat.le_add_right _ _), fun a h => Nat.lt_of_lt_of_le (h2 a h) (Nat.le_add_right _ _)⟩
  · rw [List.getElem?_append] at hv
    split at hv
    · exact hP.2 i v hv
    · have hz : i - P.length < 1 := (List.getElem?_eq_some_iff.mp hv).1
      rw [show i - P.length = 0 by omega] at hv
      cases hv
      exact h3
def lfR (NL : List zRu) (i : Nat) (g : zDn) : Prop := ∃ (s : Int32) (k : Nat), NL[i]? = some (s, nI k, none, none) ∧ k < 100 ∧ g = fun _ => (s, k)
/-- rule i of the list is read as g, and lies at most d deep -/
def DN (NL : List zRu) : Nat → Nat → zDn → Prop
  | 0, i, g => lfR NL i g
  | d + 1, i, g => lfR NL i g ∨ ∃ (s : Int32) (k a b : Nat) (ga gb : zDn), NL[i]? = some (s, nI k, some a, some b) ∧ k < 100 ∧ DN NL d a ga ∧ DN NL d b gb ∧ g = fun x => if x < nI k then ga x else gb x
theorem lfR_app {NL X : List zRu} {i : Nat} {g : zDn} (h : lfR NL i g) : lfR (NL ++ X) i g := by
  obtain ⟨s, k, h1, h2, h3⟩ := h
  exact ⟨s, k, by rw [List.getElem?_append_left (List.getElem?_eq_some_iff.mp h1).1]; exact h1, h2, h3⟩
theorem DN_app {NL X : List zRu} : ∀ {d i : Nat} {g : zDn}, DN NL d i g → DN (NL ++ X) d i g
  | 0, _, _, h => lfR_app h
  | d + 1, i, g, h => by
    rcases h with h | ⟨s, k, a, b, ga, gb, h1, h2, h3, h4, h5⟩
    · exact Or.inl (lfR_app h)
    · exact Or.inr ⟨s, k, a, b, ga, gb, by rw [List.getElem?_append_left (List.getElem?_eq_some_iff.mp h1).1]; exact h1, h2, DN_app h3, DN_app h4, h5⟩
theorem at_sh {P NL : List zRu} {i : Nat} {u : zRu} (h : NL[i]? = some u) : (P ++ shR P.length NL)[i + P.length]? = some (u.1, u.2.1, u.2.2.1.map (fun i => i + P.length), u.2.2.2.map (fun i => i + P.length)) := by
  rw [List.getElem?_append_right (by omega), Nat.add_sub_cancel, shR_at, h]; rfl
theorem lfR_sh {P NL : List zRu} {i : Nat} {g : zDn} (h : lfR NL i g) : lfR (P ++ shR P.length NL) (i + P.length) g := by
  obtain ⟨s, k, h1, h2, h3⟩ := h
  exact ⟨s, k, at_sh h1, h2, h3⟩
theorem DN_sh {P NL : List zRu} : ∀ {d i : Nat} {g : zDn}, DN NL d i g → DN (P ++ shR P.length NL) d (i + P.length) g
  | 0, _, _, h => lfR_sh h
  | d + 1, i, g, h => by
    rcases h with h | ⟨s, k, a, b, ga, gb, h1, h2, h3, h4, h5⟩
    · exact Or.inl (lfR_sh h)
    · exact Or.inr ⟨s, k, a + P.length, b + P.length, ga, gb, at_sh h1, h2, DN_sh h3, DN_sh h4, h5⟩
theorem lf_smp {NL : List zRu} {x : Int32} {i : Nat} {g : zDn} (h : lfR NL i g) (e : Nat) : ∃ u, NL[smp NL x e i]? = some u ∧ (u.1, u.2.1.toNatClampNeg) = g x := by
  obtain ⟨s, k, h1, h2, rfl⟩ := h
  have : smp NL x e i = i := by
    cases e with
    | zero => rfl
    | succ e => unfold smp; rw [h1]
  rw [this]
  exact ⟨_, h1, by show (s, (nI k).toNatClampNeg) = (s, k); rw [nI_clamp (by omega)]⟩
theorem DN_smp {NL : List zRu} {x : Int32} : ∀ {d e i : Nat} {g : zDn}, DN NL d i g → d ≤ e → ∃ u, NL[smp NL x e i]? = some u ∧ (u.1, u.2.1.toNatClampNeg) = g x
  | 0, e, i, g, h, _ => lf_smp h e
  | d + 1, e, i, g, h, he => by
    rcases h with h | ⟨s, k, a, b, ga, gb, h1, h2, h3, h4, rfl⟩
    · exact lf_smp h e
    · obtain ⟨e', rfl⟩ : ∃ e', e = e' + 1 := ⟨e - 1, by omega⟩
      have : smp NL x (e' + 1) i = smp NL x e' (if x < nI k then a else b) := by
        show (match NL[i]? with
          | some (_, k, some a, some b) => smp NL x e' (if x < k then a else b)
          | _ => i) = _
        rw [h1]
      rw [this]
      by_cases hx : x < nI k
      · rw [if_pos hx]
        obtain ⟨u, hu, e⟩ := DN_smp (x := x) (e := e') h3 (by omega)
        exact ⟨u, hu, by rw [e]; show _ = if x < nI k then ga x else gb x; rw [if_pos hx]⟩
      · rw [if_neg hx]
        obtain ⟨u, hu, e⟩ := DN_smp (x := x) (e := e') h4 (by omega)
        exact ⟨u, hu, by rw [e]; show _ = if x < nI k then ga x else gb x; rw [if_neg hx]⟩
theorem DN_dn {NL : List zRu} {rl : Nat → Option Nat} {r i d : Nat} {g : zDn} (h : DN NL d i g) (hd : d ≤ 4) (hr : rl r = some i) (x : Int32) : dnI NL rl r x = g x := by
  obtain ⟨u, hu, e⟩ := DN_smp (x := x) h hd
  unfold dnI
  rw [hr]
  show (match NL[smp NL x 4 i]? with
    | some u => (u.1, u.2.1.toNatClampNeg)
    | none => (0, 0)) = _
  rw [hu, ← e]
theorem DN_ok {NL : List zRu} {x : Int32} : ∀ {d i : Nat} {g : zDn}, DN NL d i g → (g x).2 < 100
  | 0, _, _, h => by obtain ⟨s, k, h1, h2, rfl⟩ := h; exact h2
  | d + 1, i, g, h => by
    rcases h with h | ⟨s, k, a, b, ga, gb, h1, h2, h3, h4, rfl⟩
    · obtain ⟨s, k, h1, h2, rfl⟩ := h; exact h2
    · show (if x < nI k then ga x else gb x).2 < 100
      split
      · exact DN_ok h3
      · exact DN_ok h4
/-- an old rule is read as before when rules come -/
theorem smp_app {RL X : List zRu} (hR : wfR RL) {x : Int32} : ∀ d i, i < RL.length → smp (RL ++ X) x d i = smp RL x d i
  | 0, _, _ => rfl
  | d + 1, i, hi => by
    unfold smp
    rw [List.getElem?_append_left hi]
    split
    · rename_i s k a b hu
      have := hR i _ hu
      split
      · exact smp_app hR d a (this.1 a rfl)
      · exact smp_app hR d b (this.2 b rfl)
    · rfl
theorem dnI_app {RL X : List zRu} (hR : wfR RL) {rl : Nat → Option Nat} {r i : Nat} (hr : rl r = some i) (hi : i < RL.length) (x : Int32) : dnI (RL ++ X) rl r x = dnI RL rl r x := by
  unfold dnI
  rw [hr]
  show (match (RL ++ X)[smp (RL ++ X) x 4 i]? with
    | some u => (u.1, u.2.1.toNatClampNeg)
    | none => (0, 0)) = (match RL[smp RL x 4 i]? with
    | some u => (u.1, u.2.1.toNatClampNeg)
    | none => (0, 0))
  rw [smp_app hR 4 i hi, List.getElem?_append_left (smp_lt hR 4 i hi)]
/-- try's number is above 0 -/
theorem pS_try {f : Nat → Int32} {len p : Nat} {alt : Nat × Option zDn} (ha : ∀ g, alt.2 = some g → ∀ x, (g x).1 = nI 116 → 0 < (g x).2) : ∀ g, (pS f len p alt).2 = some g → ∀ x, (g x).1 = nI 116 → 0 < (g x).2 := by
  unfold pS
  split
  · rename_i hc
    intro g hg x hx
    cases hg
    have hx : hrC f len p = nI 116 := hx
    rw [hx] at hc
    exact absurd hc (by decide)
  · split
    · split
      · intro g hg; cases hg
      · rename_i h0
        intro g hg x hx
        cases hg
        show 0 < (rdN f len (p + 1)).2
        omega
    · split
      · exact ha
      · intro g hg; cases hg
theorem pM_try {f : Nat → Int32} {len p : Nat} {R : Nat → Nat × Option zDn} (hR : ∀ p g, (R p).2 = some g → ∀ x, (g x).1 = nI 116 → 0 < (g x).2) : ∀ g, (pM f len R p).2 = some g → ∀ x, (g x).1 = nI 116 → 0 < (g x).2 := by
  unfold pM
  split
  · intro g hg; cases hg
  · split
    · split
      · intro g hg; cases hg
      · rename_i p2 a e2
        split
        · split
          · intro g hg; cases hg
          · rename_i p3 b e3
            split
            · intro g hg x
              cases hg
              show (if x < nI _ then a x else b x).1 = nI 116 → 0 < (if x < nI _ then a x else b x).2
              split
              · exact hR _ a (by rw [e2]) x
              · exact hR _ b (by rw [e3]) x
            · intro g hg; cases hg
        · intro g hg; cases hg
    · intro g hg; cases hg
theorem pR_try {f : Nat → Int32} {len : Nat} : ∀ d p g, (pR f len d p).2 = some g → ∀ x, (g x).1 = nI 116 → 0 < (g x).2
  | 0, p, g => pS_try (fun g hg => by cases hg) g
  | d + 1, p, g => pS_try (pM_try (pR_try d)) g
