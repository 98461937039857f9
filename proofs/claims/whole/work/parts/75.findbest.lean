/-! sums over the rows; the best of both kinds -/
theorem sm_ext {f : Nat → Int} {B : Nat} : ∀ {R : Nat}, B ≤ R → (∀ r, B ≤ r → r < R → f r = 0) → sm f R = sm f B
  | 0, h, _ => by
    have : B = 0 := by omega
    rw [this]
  | R + 1, h, hz => by
    by_cases e : B = R + 1
    · rw [e]
    · have ih := sm_ext (f := f) (B := B) (R := R) (by omega) (fun r h1 h2 => hz r h1 (by omega))
      have := hz R (by omega) (by omega)
      show sm f R + f R = sm f B
      omega
theorem P_total_26_50 {po : Int64 → wF → wA → wB → Prop} {f : wF} {a : wA} {b : wB} {R : Nat} {X : Nat → Nat → Int} {P : Nat → Nat} (hf : f 5 = nI R) (hR : R ≤ 10) (hb : ∀ r u, r < 10 → u < 12 → b (27 + r) u = Int64.ofInt (X r u)) (ha : ∀ r, r < R → a 50 r = en 12 (P r) ∧ P r ≤ 12) (h : po (Int64.ofInt (ky R X P)) f a b) : wp_P_total_26_50 po f a b := by
  refine pk_loop (σ := Int64) (fun m k s => wp_P_total_26_50_5 po m s (nI k) f a b) (fun k s => s = Int64.ofInt (ky k X P)) R 0 0 (by omega) rfl ?_ ?_
  · intro m s e
    exact pk_le R R (fun _ => by rw [e]; exact h) (fun y => absurd y (by omega)) hf
  · intro m k s hk e ih
    refine pk_le R k (fun y => absurd y (by omega)) (fun _ => ⟨vp_in_nI (by omega) (by decide), ?_⟩) hf
    obtain ⟨g1, g2⟩ := ha k hk
    rw [nI_clamp (n := k) (by omega), g1, en_iff (by omega)]
    refine ⟨fun c => ?_, fun c => ?_⟩
    · show wp_P_total_26_50_5 po m s (nI k + 1) f a b
      rw [nI_1]
      refine ih s ?_
      rw [e]
      show _ = Int64.ofInt (ky k X P + kyf X P k)
      rw [show kyf X P k = 0 from if_pos c, Int.add_zero]
    · rw [en_n c, nI_clamp (n := P k) (by omega)]
      refine ⟨vp_in_nI (by omega) (by decide), vp_in_nI (by omega) (by decide), vp_in_nI (by omega) (by decide), ?_⟩
      show wp_P_total_26_50_5 po m _ (nI k + 1) f a b
      rw [nI_1, hb k (P k) (by omega) (by omega)]
      refine ih _ ?_
      rw [e, ← Int64.ofInt_add]
      show _ = Int64.ofInt (ky k X P + kyf X P k)
      rw [show kyf X P k = X k (P k) from if_neg c]
theorem P_total_26_48 {po : Int64 → wF → wA → wB → Prop} {f : wF} {a : wA} {b : wB} {R : Nat} {X : Nat → Nat → Int} {P : Nat → Nat} (hf : f 5 = nI R) (hR : R ≤ 10) (hb : ∀ r u, r < 10 → u < 12 → b (27 + r) u = Int64.ofInt (X r u)) (ha : ∀ r, r < R → a 48 r = en 12 (P r) ∧ P r ≤ 12) (h : po (Int64.ofInt (ky R X P)) f a b) : wp_P_total_26_48 po f a b := by
  refine pk_loop (σ := Int64) (fun m k s => wp_P_total_26_48_5 po m s (nI k) f a b) (fun k s => s = Int64.ofInt (ky k X P)) R 0 0 (by omega) rfl ?_ ?_
  · intro m s e
    exact pk_le R R (fun _ => by rw [e]; exact h) (fun y => absurd y (by omega)) hf
  · intro m k s hk e ih
    refine pk_le R k (fun y => absurd y (by omega)) (fun _ => ⟨vp_in_nI (by omega) (by decide), ?_⟩) hf
    obtain ⟨g1, g2⟩ := ha k hk
    rw [nI_clamp (n := k) (by omega), g1, en_iff (by omega)]
    refine ⟨fun c => ?_, fun c => ?_⟩
    · show wp_P_total_26_48_5 po m s (nI k + 1) f a b
      rw [nI_1]
      refine ih s ?_
      rw [e]
      show _ = Int64.ofInt (ky k X P + kyf X P k)
      rw [show kyf X P k = 0 from if_pos c, Int.add_zero]
    · rw [en_n c, nI_clamp (n := P k) (by omega)]
      refine ⟨vp_in_nI (by omega) (by decide), vp_in_nI (by omega) (by decide), vp_in_nI (by omega) (by decide), ?_⟩
      show wp_P_total_26_48_5 po m _ (nI k + 1) f a b
      rw [nI_1, hb k (P k) (by omega) (by omega)]
      refine ih _ ?_
      rw [e, ← Int64.ofInt_add]
      show _ = Int64.ofInt (ky k X P + kyf X P k)
      rw [show kyf X P k = X k (P k) from if_neg c]
theorem P_total_37_50 {po : Int64 → wF → wA → wB → Prop} {f : wF} {a : wA} {b : wB} {R : Nat} {X : Nat → Nat → Int} {P : Nat → Nat} (hf : f 5 = nI R) (hR : R ≤ 10) (hb : ∀ r u, r < 10 → u < 12 → b (38 + r) u = Int64.ofInt (X r u)) (ha : ∀ r, r < R → a 50 r = en 12 (P r) ∧ P r ≤ 12) (h : po (Int64.ofInt (ky R X P)) f a b) : wp_P_total_37_50 po f a b := by
  refine pk_loop (σ := Int64) (fun m k s => wp_P_total_37_50_5 po m s (nI k) f a b) (fun k s => s = Int64.ofInt (ky k X P)) R 0 0 (by omega) rfl ?_ ?_
  · intro m s e
    exact pk_le R R (fun _ => by rw [e]; exact h) (fun y => absurd y (by omega)) hf
  · intro m k s hk e ih
    refine pk_le R k (fun y => absurd y (by omega)) (fun _ => ⟨vp_in_nI (by omega) (by decide), ?_⟩) hf
    obtain ⟨g1, g2⟩ := ha k hk
    rw [nI_clamp (n := k) (by omega), g1, en_iff (by omega)]
    refine ⟨fun c => ?_, fun c => ?_⟩
    · show wp_P_total_37_50_5 po m s (nI k + 1) f a b
      rw [nI_1]
      refine ih s ?_
      rw [e]
      show _ = Int64.ofInt (ky k X P + kyf X P k)
      rw [show kyf X P k = 0 from if_pos c, Int.add_zero]
    · rw [en_n c, nI_clamp (n := P k) (by omega)]
      refine ⟨vp_in_nI (by omega) (by decide), vp_in_nI (by omega) (by decide), vp_in_nI (by omega) (by decide), ?_⟩
      show wp_P_total_37_50_5 po m _ (nI k + 1) f a b
      rw [nI_1, hb k (P k) (by omega) (by omega)]
      refine ih _ ?_
      rw [e, ← Int64.ofInt_add]
      show _ = Int64.ofInt (ky k X P + kyf X P k)
      rw [show kyf X P k = X k (P k) from if_neg c]
theorem P_total_37_48 {po : Int64 → wF → wA → wB → Prop} {f : wF} {a : wA} {b : wB} {R : Nat} {X : Nat → Nat → Int} {P : Nat → Nat} (hf : f 5 = nI R) (hR : R ≤ 10) (hb : ∀ r u, r < 10 → u < 12 → b (38 + r) u = Int64.ofInt (X r u)) (ha : ∀ r, r < R → a 48 r = en 12 (P r) ∧ P r ≤ 12) (h : po (Int64.ofInt (ky R X P)) f a b) : wp_P_total_37_48 po f a b := by
  refine pk_loop (σ := Int64) (fun m k s => wp_P_total_37_48_5 po m s (nI k) f a b) (fun k s => s = Int64.ofInt (ky k X P)) R 0 0 (by omega) rfl ?_ ?_
  · intro m s e
    exact pk_le R R (fun _ => by rw [e]; exact h) (fun y => absurd y (by omega)) hf
  · intro m k s hk e ih
    refine pk_le R k (fun y => absurd y (by omega)) (fun _ => ⟨vp_in_nI (by omega) (by decide), ?_⟩) hf
    obtain ⟨g1, g2⟩ := ha k hk
    rw [nI_clamp (n := k) (by omega), g1, en_iff (by omega)]
    refine ⟨fun c => ?_, fun c => ?_⟩
    · show wp_P_total_37_48_5 po m s (nI k + 1) f a b
      rw [nI_1]
      refine ih s ?_
      rw [e]
      show _ = Int64.ofInt (ky k X P + kyf X P k)
      rw [show kyf X P k = 0 from if_pos c, Int.add_zero]
    · rw [en_n c, nI_clamp (n := P k) (by omega)]
      refine ⟨vp_in_nI (by omega) (by decide), vp_in_nI (by omega) (by decide), vp_in_nI (by omega) (by decide), ?_⟩
      show wp_P_total_37_48_5 po m _ (nI k + 1) f a b
      rw [nI_1, hb k (P k) (by omega) (by omega)]
      refine ih _ ?_
      rw [e, ← Int64.ofInt_add]
      show _ = Int64.ofInt (ky k X P + kyf X P k)
      rw [show kyf X P k = X k (P k) from if_neg c]
def vld (R B : Nat) (mx : Int) (Q : Nat → Nat) : Prop := cn R Q ≤ mx ∨ ∀ r, B ≤ r → r < R → Q r = 12
def bstV (R B : Nat) (C : Nat → Nat → Int) (mx : Int) (P : Nat → Nat) : Prop := okP R (al C) P ∧ vld R B mx P ∧ ∀ Q, okP R (al C) Q → vld R B mx Q → ky R (wgt C) P ≤ ky R (wgt C) Q
def fr5 (a a' : wA) : Prop := ∀ j, j ≠ 48 → j ≠ 49 → j ≠ 50 → j ≠ 51 → j ≠ 54 → a' j = a j
theorem cn_two {R B : Nat} (h : B ≤ R) {Q : Nat → Nat} (hz : ∀ r, B ≤ r → r < R → Q r = 12) : cn R Q = cn B Q := sm_ext h (fun r h1 h2 => if_pos (hz r h1 h2))
theorem ky_two2 {R B : Nat} (h : B ≤ R) {Q : Nat → Nat} {w : Nat → Nat → Int} (hz : ∀ r, B ≤ r → r < R → Q r = 12) : ky R w Q = ky B w Q := sm_ext h (fun r h1 h2 => if_pos (hz r h1 h2))
theorem kyC_lb {R : Nat} (hR : R ≤ 10) {C : Nat → Nat → Int} (hC2 : ∀ r u, r < 10 → u < 12 → -900000000 ≤ C r u ∧ C r u ≤ 0) {P : Nat → Nat} (hP : ∀ r, r < R → P r ≤ 12) : lb (ky R C P) (ky R tieI P) 10 := by
  have g1 := ky_T hR hP
  have g2 := ky_bounds (n := R) (a := C) (P := P) (lo := -900000000) (hi := 0) (by decide) (Int.le_refl 0) (fun r hr e => by
    have := hP r hr
    exact hC2 r (P r) (by omega) (by omega))
  unfold lb
  omega
theorem P_findBest {po : wF → wA → wB → Prop} {C : Nat → Nat → Int} {x1 : Int32} {f : wF} {a : wA} {b : wB} {R B : Nat} (hf5 : f 5 = nI R) (hf6 : f 6 = nI B) (hBR : B ≤ R) (hR : R ≤ 10) (hb : ∀ r u, r < 10 → u < 12 → b (27 + r) u = Int64.ofInt (C r u) ∧ b (38 + r) u = Int64.ofInt (tieI r u)) (hC : CW C) (hC2 : ∀ r u, r < 10 → u < 12 → -900000000 ≤ C r u ∧ C r u ≤ 0)
    (h : ∀ P a' b', bstV R B C (max x1.toInt 0) P → (∀ r, r < R → a' 48 r = en 12 (P r)) → fr5 a a' → frb b b' → po f a' b') : wp_P_findBest po x1 f a b := by
  unfold wp_P_findBest
  rw [hf5]
  refine P_pair hR hb hC hC2 (fun P1 a1 b1 ⟨p1, p2, p3, p4, p5⟩ => ?_)
  rw [hf6, Int32.lt_iff_toInt_lt, nI_toInt (by omega)]
  have hb1 : ∀ r u, r < 10 → u < 12 → b1 (27 + r) u = Int64.ofInt (C r u) ∧ b1 (38 + r) u = Int64.ofInt (tieI r u) := fun r u hr hu => by
    rw [p5 _ (by omega) (by omega) (by omega) (by omega), p5 _ (by omega) (by omega) (by omega) (by omega)]; exact hb r u hr hu
  refine ⟨fun c => ?_, fun c => ?_⟩
  · refine P_pair (by omega) hb1 hC hC2 (fun P2 a2 b2 ⟨q1, q2, q3, q4, q5⟩ => ?_)
    have e50 : ∀ r, r < 10 → a2 50 r = a1 48 r := fun r hr => by
      rw [q4 50 (by decide) (by decide) (by decide) (by decide), va_up_self]
      have := pk_cpy_in (f := a1 48) (g := a1 50) (sp := 0) (dp := 0) (n := 10) (j := r) (by omega) (by omega)
      rw [show 0 + (r - 0) = r by omega] at this
      exact this
    have hP1 := p1.1
    have hP2 := q1.1
    have hmx : max (nI B).toInt 0 = (B : Int) := by rw [nI_toInt (by omega)]; omega
    rw [hmx] at q1
    have hb2 : ∀ r u, r < 10 → u < 12 → b2 (27 + r) u = Int64.ofInt (C r u) ∧ b2 (38 + r) u = Int64.ofInt (tieI r u) := fun r u hr hu => by
      rw [q5 _ (by omega) (by omega) (by omega) (by omega), q5 _ (by omega) (by omega) (by omega) (by omega)]; exact hb1 r u hr hu
    have hA1 : ∀ r, r < R → a2 50 r = en 12 (P1 r) ∧ P1 r ≤ 12 := fun r hr => ⟨by rw [e50 r (by omega)]; exact p2 r hr, hP1.le r hr⟩
    let P3 : Nat → Nat := fun r => if r < B then P2 r else 12
    have e3 : ∀ r, r < B → P3 r = P2 r := fun r hr => if_pos hr
    have e3' : ∀ r, B ≤ r → P3 r = 12 := fun r hr => if_neg (by omega)
    have hA3 : ∀ r, r < R → a2 48 r = en 12 (P3 r) ∧ P3 r ≤ 12 := fun r hr => by
      by_cases e : r < B
      · rw [e3 r e]; exact ⟨q2 r e, hP2.le r e⟩
      · rw [e3' r (by omega), en_m]; exact ⟨q3 r (by omega), Nat.le_refl 12⟩
    have hok3 : okP R (al C) P3 := by
      refine ⟨fun r hr => ?_, fun r q hr hq e1 e2 => ?_⟩
      · by_cases e : r < B
        · rw [e3 r e]; exact hP2.1 r e
        · exact Or.inl (e3' r (by omega))
      · by_cases er : r < B
        · by_cases eq : q < B
          · rw [e3 r er, e3 q eq] at e1
            rw [e3 r er] at e2
            exact hP2.2 r q er eq e1 e2
          · rw [e1, e3' q (by omega)] at e2; exact absurd rfl e2
        · rw [e3' r (by omega)] at e2; exact absurd rfl e2
    have hv3 : vld R B (max x1.toInt 0) P3 := Or.inr (fun r h1 h2 => e3' r h1)
    have hv1 : vld R B (max x1.toInt 0) P1 := Or.inl p1.2.1
    have hky3 : ky R (wgt C) P3 = ky B (wgt C) P2 := by
      rw [ky_two2 hBR (fun r h1 h2 => e3' r h1)]
      exact sm_congr (fun r hr => by unfold kyf; rw [e3 r hr])
    have hbest : ∀ Q, okP R (al C) Q → vld R B (max x1.toInt 0) Q → ky R (wgt C) P1 ≤ ky R (wgt C) Q ∨ ky R (wgt C) P3 ≤ ky R (wgt C) Q := by
      intro Q hQ hv
      rcases hv with hv | hv
      · exact Or.inl (p1.2.2 Q hQ hv)
      · right
        rw [hky3, ky_two2 hBR hv]
        refine q1.2.2 Q ⟨fun r hr => hQ.1 r (by omega), fun r q hr hq => hQ.2 r q (by omega) (by omega)⟩ (cn_le B Q)
    refine P_total_26_50 hf5 hR (fun r u hr hu => (hb2 r u hr hu).1) hA1 (P_total_37_50 hf5 hR (fun r u hr hu => (hb2 r u hr hu).2) hA1 (P_total_26_48 hf5 hR (fun r u hr hu => (hb2 r u hr hu).1) hA3 (P_total_37_48 hf5 hR (fun r u hr hu => (hb2 r u hr hu).2) hA3 ?_)))
    have hfrm : fr5 a a2 := fun j z1 z2 z3 z4 z5 => (q4 j z1 z2 z4 z5).trans ((va_up_ne _ _ z3).trans (p4 j z1 z2 z4 z5))
    refine P_isLess (kyC_lb hR hC2 hP1.le) (kyC_lb hR hC2 hok3.le) (by decide) (by decide) (fun hl => iN n10 ?_) (fun hl => ip rfl ?_)
    · rw [← ky_W, ← ky_W] at hl
      refine h P1 _ b2 ⟨hP1, hv1, fun Q hQ hv => ?_⟩ (fun r hr => ?_) (fun j z1 z2 z3 z4 z5 => (va_up_ne _ _ z1).trans (hfrm j z1 z2 z3 z4 z5)) (p5.t q5)
      · rcases hbest Q hQ hv with z | z
        · exact z
        · omega
      · rw [va_up_self]
        have := pk_cpy_in (f := a2 50) (g := a2 48) (sp := 0) (dp := 0) (n := 10) (j := r) (by omega) (by omega)
        rw [show 0 + (r - 0) = r by omega] at this
        exact this.trans (hA1 r hr).1
    · rw [← ky_W, ← ky_W] at hl
      refine h P3 a2 b2 ⟨hok3, hv3, fun Q hQ hv => ?_⟩ (fun r hr => (hA3 r hr).1) hfrm (p5.t q5)
      rcases hbest Q hQ hv with z | z
      · omega
      · exact z
  · refine h P1 a1 b1 ⟨p1.1, Or.inl p1.2.1, fun Q hQ hv => p1.2.2 Q hQ ?_⟩ p2 (fun j z1 z2 z3 z4 z5 => p4 j z1 z2 z4 z5) p5
    rcases hv with hv | hv
    · exact hv
    · have h1 := cn_two hBR hv
      have h2 := cn_le B Q
      omega
