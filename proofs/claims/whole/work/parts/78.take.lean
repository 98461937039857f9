/-! taking the best plan over; how many needs have a unit -/
theorem iFill.take {aS aM aS' aM' : wA} {U NC u n : Nat} (h : iFill aS aM U NC) (hU : U ≤ 12) (hNC : NC ≤ 10) (hu : u < U) (hn : n < NC) (h22 : aS 22 n = -1) (h4 : aS 4 u = -1) (h2 : aS 2 u = 0) (h19 : aS 19 (aS 20 n).toNatClampNeg = 1)
    (e22 : aS' 22 = upd (aS 22) n (nI u)) (e4 : aS' 4 = upd (aS 4) u (nI n)) (e3 : aS' 3 = aS 3) (e2 : aS' 2 = aS 2) (e20 : aS' 20 = aS 20) (e19 : aS' 19 = aS 19) (e8 : aM' 8 = upd (aM 8) n (nI u)) (e9 : aM' 9 = aM 9) : iFill aS' aM' U NC := by
  have h3 : aS 3 u = 0 := by
    rcases h.un hU hNC (u := u) (by omega) with z | ⟨m, m1, m2, -⟩
    · exact z.2
    · rw [h4] at m2; exact absurd m2.symm (m1ne (by omega))
  have h9 : aM 9 n = 0 := by
    rcases ((h.1 n (by omega)).1 hn).2 with z | ⟨v, v1, v2, -⟩
    · exact z.2
    · rw [h22] at v2; exact absurd v2.symm (m1ne (by omega))
  unfold iFill
  rw [e22, e4, e3, e2, e20, e19, e8, e9]
  refine ⟨fun m hm => ⟨fun hc => ?_, fun hc => ?_⟩, fun v hv => ⟨(h.2 v hv).1, ?_⟩⟩
  · by_cases em : m = n
    · subst em
      rw [pk_us, pk_us]
      exact ⟨rfl, Or.inr ⟨u, hu, rfl, pk_us, by rw [h9, h3]⟩⟩
    · rw [pk_un em, pk_un em]
      obtain ⟨g1, g2⟩ := (h.1 m hm).1 hc
      refine ⟨g1, ?_⟩
      rcases g2 with g2 | ⟨w, w1, w2, w3, w4⟩
      · exact Or.inl g2
      · refine Or.inr ⟨w, w1, w2, ?_, w4⟩
        have : w ≠ u := fun e => by rw [e, h4] at w3; exact absurd w3.symm (m1ne (by omega))
        rw [pk_un this]; exact w3
  · rw [pk_un (by omega)]
    exact (h.1 m hm).2 hc
  · by_cases ev : v = u
    · subst ev
      right
      rw [pk_us]
      exact ⟨n, hn, rfl, pk_us, hu, h2, h19⟩
    · rw [pk_un ev]
      rcases (h.2 v hv).2 with g | ⟨m, g1, g2, g3, g4, g5, g6⟩
      · exact Or.inl g
      · refine Or.inr ⟨m, g1, g2, ?_, g4, g5, g6⟩
        have : m ≠ n := fun e => by rw [e, h22] at g3; exact absurd g3.symm (m1ne (by omega))
        rw [pk_un this]; exact g3
def frT (a a' : wA) : Prop := ∀ j, j ≠ 22 → j ≠ 4 → j ≠ 3 → a' j = a j
section TB
variable {f : wF} {a0 a aM : wA} {b : wB} {U NC rr : Nat} {P : Nat → Nat}
theorem S_take2 {po : wF → wA → wB → Prop} {a1 : wA} (hs : SC a0 U NC) (hI0 : iFill a0 aM U NC) (hfr : fr23 a0 a) (h25 : ∀ r, r < rwC a0 rr NC → a 25 r = nI (rho a0 rr NC r)) (h48 : ∀ r, r < rwC a0 rr NC → a 48 r = en 12 (P r) ∧ P r ≤ 12) (hf5 : f 5 = nI (rwC a0 rr NC)) (hP : ∀ r, r < rwC a0 rr NC → P r ≠ 12 → P r < U ∧ ¬ fixU a0 (P r) ∧ vCan a0 (P r) (rho a0 rr NC r)) (hj : inj (rwC a0 rr NC) P)
    (h : ∀ a' sM, frT a a' → iFill a' sM U NC → (∀ r, r < rwC a0 rr NC → sM 8 (rho a0 rr NC r) = en 12 (P r) ∧ sM 9 (rho a0 rr NC r) = 0) → (∀ n, n < NC → (∀ r, r < rwC a0 rr NC → rho a0 rr NC r ≠ n) → sM 8 n = aM 8 n ∧ sM 9 n = aM 9 n) → po f a' b)
    {sM : wA} (h1 : frT a a1) (h2 : iFill a1 sM U NC) (h3 : ∀ r, r < rwC a0 rr NC → sM 8 (rho a0 rr NC r) = -1 ∧ sM 9 (rho a0 rr NC r) = 0) (h4 : ∀ n, n < NC → (∀ r, r < rwC a0 rr NC → rho a0 rr NC r ≠ n) → sM 8 n = aM 8 n ∧ sM 9 n = aM 9 n) : ∃ n9, wp_S_takeBest_45 po n9 (0 : Int32) f a1 b := by
  have hNC := hs.2.1
  have hU := hs.1
  have hR : rwC a0 rr NC ≤ 10 := by have := rwC_le a0 rr NC; omega
  refine pk_loop (σ := wA) (fun m k s => wp_S_takeBest_45 po m (nI k) f s b) (fun k s => ∃ sM : wA, frT a s ∧ iFill s sM U NC ∧ (∀ r, r < k → r < rwC a0 rr NC → sM 8 (rho a0 rr NC r) = en 12 (P r) ∧ sM 9 (rho a0 rr NC r) = 0) ∧ (∀ r, k ≤ r → r < rwC a0 rr NC → sM 8 (rho a0 rr NC r) = -1 ∧ sM 9 (rho a0 rr NC r) = 0) ∧ (∀ n, n < NC → (∀ r, r < rwC a0 rr NC → rho a0 rr NC r ≠ n) → sM 8 n = aM 8 n ∧ sM 9 n = aM 9 n)) (rwC a0 rr NC) 0 a1 (by omega) ⟨sM, h1, h2, fun r hr => absurd hr (Nat.not_lt_zero r), fun r _ hr => h3 r hr, h4⟩ ?_ ?_
  · intro m s ⟨tM, t1, t2, t3, t4, t5⟩
    exact pk_le (rwC a0 rr NC) (rwC a0 rr NC) (fun _ => h s tM t1 t2 (fun r hr => t3 r hr hr) t5) (fun y => absurd y (by omega)) hf5
  · intro m k s hk ⟨tM, t1, t2, t3, t4, t5⟩ ih
    refine pk_le (rwC a0 rr NC) k (fun y => absurd y (by omega)) (fun _ => ?_) hf5
    have hrin := rows_in (a := a0) (rr := rr) (NC := NC) hk
    obtain ⟨g1, g2⟩ := h48 k hk
    have e48 : s 48 k = en 12 (P k) := (congrFun (t1 48 (by decide) (by decide) (by decide)) k).trans g1
    have e25 : s 25 k = nI (rho a0 rr NC k) := (congrFun (t1 25 (by decide) (by decide) (by decide)) k).trans (h25 k hk)
    have k4 := t4 k (Nat.le_refl k) hk
    refine ⟨vp_in_nI (by omega) (by decide), ?_⟩
    dsimp only
    rw [nI_clamp (n := k) (by omega), e48, en_iff (by omega)]
    refine ⟨fun c => ?_, fun c => ?_⟩
    · show wp_S_takeBest_45 po m (nI k + 1) f s b
      rw [nI_1]
      refine ih s ⟨tM, t1, t2, fun r hr hr2 => ?_, fun r hr hr2 => t4 r (by omega) hr2, t5⟩
      by_cases e : r = k
      · subst e; rw [c, en_m]; exact k4
      · exact t3 r (by omega) hr2
    · rw [en_n c]
      obtain ⟨p1, p2, p3⟩ := hP k hk c
      have hfr1 : ∀ j, j ≤ 23 → j ≠ 22 → j ≠ 4 → j ≠ 3 → s j = a0 j := fun j z1 z2 z3 z4 => (t1 j z2 z3 z4).trans (hfr j z1)
      have s22 : s 22 (rho a0 rr NC k) = -1 := by
        have := ((t2.1 (rho a0 rr NC k) (by omega)).1 hrin.1).1
        rw [k4.1] at this
        exact this.symm
      have s4 : s 4 (P k) = -1 := by
        rcases t2.un hU hNC (u := P k) (by omega) with z | ⟨n, n1, n2, n3, n4, n5, n6, n7, n8⟩
        · exact z.1
        · exfalso
          by_cases hrow : ∃ r, r < rwC a0 rr NC ∧ rho a0 rr NC r = n
          · obtain ⟨r, r1, r2⟩ := hrow
            subst r2
            by_cases hlt : r < k
            · have := (t3 r hlt r1).1
              rw [n4] at this
              have hle := (h48 r r1).2
              have hPr : P r = P k := (en_eq (by decide) hle (by omega)).mp this.symm
              have := hj r k r1 hk hPr (by rw [hPr]; exact c)
              omega
            · have := (t4 r (by omega) r1).1
              rw [n4] at this
              exact m1ne (by omega) this
          · have hop : vOp a0 n = 1 := by
              have e1 : vOp s n = vOp a0 n := by unfold vOp vInc; rw [hfr1 19 (by decide) (by decide) (by decide) (by decide), hfr1 20 (by decide) (by decide) (by decide) (by decide)]
              rw [← e1]; exact n8
            have hfx : fixN a0 n := by
              by_cases hz : fixN a0 n
              · exact hz
              · exact absurd (rows_all n1 (by rw [hop]; exact n10) hz) hrow
            have e22 : a0 22 n = nI (P k) := by
              have y1 := ((hI0.1 n (by omega)).1 n1).1
              have y2 := (t5 n n1 (fun r r1 r2 => hrow ⟨r, r1, r2⟩)).1
              rw [← y1, ← y2]; exact n4
            have := hfx.2
            rw [e22, nI_clamp (by omega)] at this
            exact p2 this
      refine ⟨vp_in_nI (by omega) (by decide), ?_⟩
      dsimp only
      rw [nI_clamp (n := k) (by omega), e25]
      refine ⟨vp_in_nI (by omega) (by decide), vp_in_nI (by omega) (by decide), vp_in_nI (by omega) (by decide), ?_⟩
      show wp_S_takeBest_45 po m (nI k + 1) f _ b
      rw [nI_1, nI_clamp (n := P k) (by omega), va_up_ne _ _ (show (25 : Nat) ≠ 22 by decide), nI_clamp (n := k) (by omega), e25, va_up_ne _ _ (show (4 : Nat) ≠ 22 by decide), nI_clamp (n := rho a0 rr NC k) (by omega)]
      refine ih _ ⟨va_up tM 8 (upd (tM 8) (rho a0 rr NC k) (nI (P k))), fun j z1 z2 z3 => (va_up_ne _ _ z2).trans ((va_up_ne _ _ z1).trans (t1 j z1 z2 z3)), t2.take (aM' := va_up tM 8 (upd (tM 8) (rho a0 rr NC k) (nI (P k)))) hU hNC p1 hrin.1 s22 s4 ?_ ?_ rfl rfl rfl rfl rfl rfl rfl rfl, fun r hr hr2 => ?_, fun r hr hr2 => ?_, fun n n1 n2 => ?_⟩
      · rw [hfr1 2 (by decide) (by decide) (by decide) (by decide)]; exact p3.1
      · rw [hfr1 19 (by decide) (by decide) (by decide) (by decide), hfr1 20 (by decide) (by decide) (by decide) (by decide)]
        rcases (hs.2.2.1 _ hrin.1).2.1 with z | z
        · exact absurd z hrin.2.1
        · exact z
      · rw [va_up_self, va_up_ne _ _ (by decide)]
        by_cases e : r = k
        · subst e; rw [pk_us, en_n c]; exact ⟨rfl, k4.2⟩
        · rw [pk_un (fun z => e (rows_inj hr2 hk z))]; exact t3 r (by omega) hr2
      · rw [va_up_self, va_up_ne _ _ (by decide), pk_un (fun z => by have := rows_inj hr2 hk z; omega)]
        exact t4 r (by omega) hr2
      · rw [va_up_self, va_up_ne _ _ (by decide), pk_un (fun z => n2 k hk z.symm)]
        exact t5 n n1 n2
theorem S_takeBest {po : wF → wA → wB → Prop} (hs : SC a0 U NC) (hI0 : iFill a0 aM U NC) (hfr : fr23 a0 a) (h25 : ∀ r, r < rwC a0 rr NC → a 25 r = nI (rho a0 rr NC r)) (h48 : ∀ r, r < rwC a0 rr NC → a 48 r = en 12 (P r) ∧ P r ≤ 12) (hf5 : f 5 = nI (rwC a0 rr NC)) (hP : ∀ r, r < rwC a0 rr NC → P r ≠ 12 → P r < U ∧ ¬ fixU a0 (P r) ∧ vCan a0 (P r) (rho a0 rr NC r)) (hj : inj (rwC a0 rr NC) P)
    (h : ∀ a' sM, frT a a' → iFill a' sM U NC → (∀ r, r < rwC a0 rr NC → sM 8 (rho a0 rr NC r) = en 12 (P r) ∧ sM 9 (rho a0 rr NC r) = 0) → (∀ n, n < NC → (∀ r, r < rwC a0 rr NC → rho a0 rr NC r ≠ n) → sM 8 n = aM 8 n ∧ sM 9 n = aM 9 n) → po f a' b) : wp_S_takeBest po f a b := by
  have hNC := hs.2.1
  have hU := hs.1
  have hR : rwC a0 rr NC ≤ 10 := by have := rwC_le a0 rr NC; omega
  refine pk_loop (σ := wA) (fun m k s => wp_S_takeBest_2 po m (nI k) f s b) (fun k s => ∃ sM : wA, frT a s ∧ iFill s sM U NC ∧ (∀ r, r < k → r < rwC a0 rr NC → sM 8 (rho a0 rr NC r) = -1 ∧ sM 9 (rho a0 rr NC r) = 0) ∧ (∀ n, n < NC → (∀ r, r < rwC a0 rr NC → rho a0 rr NC r ≠ n) → sM 8 n = aM 8 n ∧ sM 9 n = aM 9 n)) (rwC a0 rr NC) 0 a (by omega) ⟨aM, fun _ _ _ _ => rfl, hI0.c (hfr 22 (by decide)) (hfr 4 (by decide)) (hfr 3 (by decide)) (hfr 2 (by decide)) (hfr 19 (by decide)) (hfr 20 (by decide)) rfl rfl, fun r hr => absurd hr (Nat.not_lt_zero r), fun _ _ _ => ⟨rfl, rfl⟩⟩ ?_ ?_
  · intro m s ⟨tM, t1, t2, t3, t4⟩
    refine pk_le (rwC a0 rr NC) (rwC a0 rr NC) (fun _ => ?_) (fun y => absurd y (by omega)) hf5
    exact S_take2 hs hI0 hfr h25 h48 hf5 hP hj h t1 t2 (fun r hr => t3 r hr hr) t4
  · intro m k s hk ⟨tM, t1, t2, t3, t4⟩ ih
    refine pk_le (rwC a0 rr NC) k (fun y => absurd y (by omega)) (fun _ => ?_) hf5
    have hrin := rows_in (a := a0) (rr := rr) (NC := NC) hk
    have e25 : s 25 k = nI (rho a0 rr NC k) := (congrFun (t1 25 (by decide) (by decide) (by decide)) k).trans (h25 k hk)
    refine ⟨vp_in_nI (by omega) (by decide), ?_⟩
    dsimp only
    rw [nI_clamp (n := k) (by omega), e25, nI_clamp (n := rho a0 rr NC k) (by omega)]
    refine ⟨vp_in_nI (by omega) (by decide), fun c => ?_, fun c => ?_⟩
    · show wp_S_takeBest_2 po m (nI k + 1) f s b
      rw [nI_1]
      refine ih s ⟨tM, t1, t2, fun r hr hr2 => ?_, t4⟩
      by_cases e : r = k
      · subst e
        obtain ⟨y1, y2⟩ := (t2.1 (rho a0 rr NC r) (by omega)).1 hrin.1
        rcases y2 with y2 | ⟨u, u1, u2, -⟩
        · rw [y1, y2.1, y2.2]; exact ⟨rfl, rfl⟩
        · rw [c] at u2; exact absurd u2.symm (m1ne (by omega))
      · exact t3 r (by omega) hr2
    · obtain ⟨y1, y2⟩ := (t2.1 (rho a0 rr NC k) (by omega)).1 hrin.1
      rcases y2 with y2 | ⟨u, u1, u2, u3, -⟩
      · exact absurd y2.1 c
      · rw [u2]
        refine S_free (by omega) (Or.inr ⟨rho a0 rr NC k, by omega, u3⟩) (fun z => absurd (u3.symm.trans z) (m1ne (by omega))) (fun n hn en => ?_)
        have en2 : n = rho a0 rr NC k := ninj (by omega) (by omega) (en.symm.trans u3)
        subst en2
        show wp_S_takeBest_2 po m (nI k + 1) f _ b
        rw [nI_1]
        refine ih _ ⟨va_up (va_up tM 8 (upd (tM 8) (rho a0 rr NC k) (-1))) 9 (upd (tM 9) (rho a0 rr NC k) 0), fun j z1 z2 z3 => (va_up_ne _ _ z3).trans ((va_up_ne _ _ z2).trans ((va_up_ne _ _ z1).trans (t1 j z1 z2 z3))), t2.leave (aM' := va_up (va_up tM 8 (upd (tM 8) (rho a0 rr NC k) (-1))) 9 (upd (tM 9) (rho a0 rr NC k) 0)) hU hNC u1 hrin.1 u3 rfl rfl rfl rfl rfl rfl rfl (fun _ _ => rfl), fun r hr hr2 => ?_, fun n n1 n2 => ?_⟩
        · rw [va_up_self, va_up_ne _ _ (show (8 : Nat) ≠ 9 by decide), va_up_self]
          by_cases e : r = k
          · subst e; rw [pk_us, pk_us]; exact ⟨rfl, rfl⟩
          · rw [pk_un (fun z => e (rows_inj hr2 hk z)), pk_un (fun z => e (rows_inj hr2 hk z))]; exact t3 r (by omega) hr2
        · rw [va_up_self, va_up_ne _ _ (show (8 : Nat) ≠ 9 by decide), va_up_self, pk_un (fun z => n2 k hk z.symm), pk_un (fun z => n2 k hk z.symm)]
          exact t4 n n1 n2
end TB
theorem S_countFilled {po : Int32 → wF → wA → wB → Prop} {f : wF} {a : wA} {b : wB} {NC : Nat} (hf : f 2 = nI NC) (hNC : NC ≤ 10) (h : po (nI (ucn (fun n => ¬ a 22 n = -1) NC)) f a b) : wp_S_countFilled po f a b := by
  refine pk_loop (σ := Int32) (fun m k s => wp_S_countFilled_4 po m s (nI k) f a b) (fun k s => s = nI (ucn (fun n => ¬ a 22 n = -1) k)) NC 0 0 (by omega) rfl ?_ ?_
  · intro m s e
    exact pk_le NC NC (fun _ => by rw [e]; exact h) (fun y => absurd y (by omega)) hf
  · intro m k s hk e ih
    refine pk_le NC k (fun y => absurd y (by omega)) (fun _ => ⟨vp_in_nI (by omega) (by decide), ?_⟩) hf
    rw [nI_clamp (n := k) (by omega)]
    refine ⟨fun c => ?_, fun c => ?_⟩
    · show wp_S_countFilled_4 po m s (nI k + 1) f a b
      rw [nI_1]
      exact ih s (by rw [e, ucn_n (p := fun n => ¬ a 22 n = -1) (fun z => z c)])
    · show wp_S_countFilled_4 po m (s + 1) (nI k + 1) f a b
      rw [nI_1]
      exact ih _ (by rw [e, ucn_y (p := fun n => ¬ a 22 n = -1) c, nI_1])
