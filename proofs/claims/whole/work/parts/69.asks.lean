/-! sum, alternative, never: each side gives what one function says of the class's state -/
theorem Inv.ok {fS fM : wF} {aS aM : wA} {bS bM b3 : wB} (hI : Inv fS aS bS fM aM bM) {v : Int32} : (va_up fM 0 0) 0 = 0 ∧ ((0 : Int32) = 0 → (va_up (mgB bS bS) 57 (vp_updL ((mgB bS bS) 57) (0 : Int32).toNatClampNeg v.toInt64)) 57 (0 : Int32).toNatClampNeg = v.toInt64) ∧ Inv fS aS (va_up (mgB bS bS) 57 (vp_updL ((mgB bS bS) 57) (0 : Int32).toNatClampNeg v.toInt64)) (va_up fM 0 0) aM b3 :=
  ⟨va_up_self _ _ _, fun _ => out_get, hI.out (fun j hj => (va_up_ne _ _ hj).trans (mg_ne hj)) (fun k hk => va_up_ne _ _ hk)⟩
noncomputable def sumI (a : wA) (x : Int32) : Nat → Int32
  | 0 => 0
  | k + 1 => if vOp a k = 0 then sumI a x k else if x = 0 then (if a 22 k = -1 then sumI a x k + vRk a k else sumI a x k) else (if a 22 k = -1 then sumI a x k else sumI a x k + vRk a k * (if vSec a (a 22 k).toNatClampNeg k < 0 then 0 else vSec a (a 22 k).toNatClampNeg k))
theorem okc_sum_Inv : okc_sum Inv := by
  intro x fS aS bS fM aM bM hI
  have hI0 := hI
  obtain ⟨U, IC, NC, rs, rr, hN⟩ := hI
  have hs := hN.sta
  obtain ⟨k0, h2, h3, h4, h5, h6, h7, h8, h9⟩ := hN
  obtain ⟨⟨k11, k12, k13⟩, ⟨k21, k22, k23⟩, ⟨k31, k32, k33⟩, k4, k5⟩ := id k0
  have hs0 : Sta fS aS (va_up fM 0 0) aM U IC NC rs rr := hs.cf (fun _ _ => rfl) (fun k hk _ => va_up_ne _ _ (by omega))
  have hfl : ∀ k, k < NC → aM 8 k = aS 22 k ∧ (aS 22 k = -1 ∨ ∃ u, u < 12 ∧ aS 22 k = nI u) := fun k hk => by
    obtain ⟨g1, g2⟩ := (h7.1 k (by omega)).1 hk
    refine ⟨g1, ?_⟩
    rcases g2 with g2 | ⟨u, u1, u2, -⟩
    · exact Or.inl g2.1
    · exact Or.inr ⟨u, by omega, u2⟩
  -- the reference's loop
  have hM : ∀ {po : Int32 → wF → wA → wB → Prop}, (x = 0 ∨ x = 1) → po (sumI aS x NC) (va_up fM 0 0) aM bM → ∃ n9, wp_M_sum_30 po n9 x (0 : Int32) (0 : Int32) (va_up fM 0 0) aM bM := by
    intro po hx hp
    refine pk_loop (σ := Int32) (fun m k s => wp_M_sum_30 po m x s (nI k) (va_up fM 0 0) aM bM) (fun k s => s = sumI aS x k) NC 0 0 (by omega) rfl ?_ ?_
    · intro m s e
      exact pk_le NC NC (fun _ => by rw [e]; exact hp) (fun y => absurd y (by omega)) ((va_up_ne _ _ (by decide)).trans k32)
    · intro m k s hk e ih
      refine pk_le NC k (fun y => absurd y (by omega)) (fun _ => ?_) ((va_up_ne _ _ (by decide)).trans k32)
      obtain ⟨f1, f2⟩ := hfl k hk
      obtain ⟨g1, g2, g3, g4, g5, g6, g7⟩ := hs.nd hk
      have hgo : ∀ v : Int32, v = sumI aS x (k + 1) → wp_M_sum_133 po (wp_M_sum_30 po m) x v (nI k) (va_up fM 0 0) aM bM := fun v hv => by
        show wp_M_sum_30 po m x v (nI k + 1) (va_up fM 0 0) aM bM
        rw [nI_1]
        exact ih v hv
      refine ⟨vp_in_nI (by omega) (by decide), ?_⟩
      rw [nI_clamp (by omega), f1]
      by_cases ho : vOp aS k = 0
      · -- closed
        have hv : s = sumI aS x (k + 1) := by rw [e]; show _ = if vOp aS k = 0 then _ else _; rw [if_pos ho]
        have h72 : ∀ t w : Int32, wp_M_sum_72 po (wp_M_sum_30 po m) t x s (nI k) w (va_up fM 0 0) aM bM := fun t w => M_isOpen hs0 hk (ip ho (M_isOpen hs0 hk (ip ho (hgo s hv))))
        refine ⟨fun c => h72 _ _, fun c => ⟨vp_in_nI (by omega) (by decide), ?_, h72 _ _⟩⟩
        rcases f2 with f2 | ⟨u, u1, u2⟩
        · rw [f2] at c; exact absurd m1neg c
        · rw [u2, g5, six]
          exact vp_in_nI (by have := h6; omega) (by decide)
      · have ho1 : vOp aS k = 1 := by
          rcases hs.op2 hk with z | z
          · exact absurd z ho
          · exact z
        rcases f2 with f2 | ⟨u, u1, u2⟩
        · refine ip (by rw [f2]; exact m1neg) (M_isOpen hs0 hk (iN ho ⟨fun cx => M_isOpen hs0 hk (iN ho ?_), fun cx => iN (by rw [f2]; decide) (M_rankOf hs0 hk (M_isOpen hs0 hk (iN ho (iN' (by rw [cx]; decide) (hgo _ ?_)))))⟩))
          · refine ⟨fun cy => hgo _ ?_, fun cy => ip (by rw [f2]; exact m1neg) (hgo _ ?_)⟩
            · rcases hx with z | z
              · exact absurd z cx
              · exact absurd z cy
            · rw [e]
              show _ = if vOp aS k = 0 then _ else if x = 0 then _ else _
              rw [if_neg ho, if_neg cx, if_pos f2]
          · rw [e]
            show _ = if vOp aS k = 0 then _ else if x = 0 then _ else _
            rw [if_neg ho, if_pos cx, if_pos f2]
        · have hne : ¬ aS 22 k = -1 := by rw [u2]; exact m1ne (by omega)
          have hcl : (aS 22 k).toNatClampNeg = u := by rw [u2, nI_clamp (by omega)]
          have hi6 : vInc aS k < 6 := by omega
          obtain ⟨s1, s2⟩ := hs.sec (u := u) u1 hk
          refine iN (by rw [u2]; exact nI_pos (by omega)) ⟨vp_in_nI (by omega) (by decide), by rw [u2, g5, six]; exact vp_in_nI (by omega) (by decide), ?_⟩
          rw [u2, g5, six, nI_clamp (by omega), s1]
          refine M_isOpen hs0 hk (iN ho ⟨fun cx => M_isOpen hs0 hk (iN ho ?_), fun cx => ip (nI_pos' (by omega)) (M_isOpen hs0 hk (iN ho (iN' (by rw [cx]; decide) (hgo _ ?_))))⟩)
          · have cx1 : x = 1 := by
              rcases hx with z | z
              · exact absurd z cx
              · exact z
            refine ip' cx1 (iN (nI_pos (by omega)) ⟨fun cs => hgo _ ?_, fun cs => M_rankOf hs0 hk (hgo _ ?_)⟩)
            · rw [e]
              show _ = if vOp aS k = 0 then _ else if x = 0 then _ else _
              rw [if_neg ho, if_neg cx, if_neg hne, hcl]
              have : (if vSec aS u k < 0 then (0 : Int32) else vSec aS u k) = 0 := by
                by_cases hz : vSec aS u k < 0
                · exact if_pos hz
                · rw [if_neg hz]
                  exact Int32.le_antisymm cs (Int32.not_lt.mp hz)
              rw [this, Int32.mul_zero, Int32.add_zero]
            · rw [e]
              show _ = if vOp aS k = 0 then _ else if x = 0 then _ else _
              rw [if_neg ho, if_neg cx, if_neg hne, hcl, if_neg (fun z => cs (Int32.le_of_lt z))]
          · rw [e]
            show _ = if vOp aS k = 0 then _ else if x = 0 then _ else _
            rw [if_neg ho, if_pos cx, if_neg hne]
  -- the class's loop
  have hS : ∀ {po : Int32 → wF → wA → wB → Prop} {px : String → wF → wA → wB → Prop}, po (sumI aS x NC) fS aS bS → wp_S_sum_19 po px x fS aS bS := by
    intro po px hp
    refine pk_loop (σ := Int32) (fun m k s => wp_S_sum_23 po px m x s (nI k) fS aS bS) (fun k s => s = sumI aS x k) NC 0 0 (by omega) rfl ?_ ?_
    · intro m s e
      exact pk_le NC NC (fun _ => by rw [e]; exact hp) (fun y => absurd y (by omega)) k31
    · intro m k s hk e ih
      refine pk_le NC k (fun y => absurd y (by omega)) (fun _ => ?_) k31
      obtain ⟨f1, f2⟩ := hfl k hk
      have g1 := (hs.nd hk).1
      have hgo : ∀ v : Int32, v = sumI aS x (k + 1) → wp_S_sum_59 po px (wp_S_sum_23 po px m) x v (nI k) fS aS bS := fun v hv => by
        show wp_S_sum_23 po px m x v (nI k + 1) fS aS bS
        rw [nI_1]
        exact ih v hv
      refine S_isOpenNeed g1 (hs.op2 hk) ⟨fun ho => hgo _ ?_, fun ho => ⟨fun cx => ?_, fun cx => ?_⟩⟩
      · rw [e]; show _ = if vOp aS k = 0 then _ else _; rw [if_pos ho]
      · unfold wp_S_weightedSeconds
        rw [nI_clamp (by omega)]
        rcases f2 with f2 | ⟨u, u1, u2⟩
        · refine ⟨vp_in_nI (by omega) (by decide), ip' f2 (hgo _ ?_)⟩
          rw [e, Int32.add_zero]
          show _ = if vOp aS k = 0 then _ else if x = 0 then _ else _
          rw [if_neg ho, if_neg cx, if_pos f2]
        · have hne : ¬ aS 22 k = -1 := by rw [u2]; exact m1ne (by omega)
          have hcl : (aS 22 k).toNatClampNeg = u := by rw [u2, nI_clamp (by omega)]
          refine ⟨vp_in_nI (by omega) (by decide), iN' hne (S_rankOfNeed g1 ⟨vp_in_nI (by omega) (by decide), ?_⟩)⟩
          rw [u2]
          refine S_secondsTo u1 g1 (hgo _ ?_)
          rw [e]
          show _ = if vOp aS k = 0 then _ else if x = 0 then _ else _
          rw [if_neg ho, if_neg cx, if_neg hne, hcl]
      · unfold wp_S_ranksLacking
        rw [nI_clamp (by omega)]
        refine ⟨vp_in_nI (by omega) (by decide), fun c => hgo _ ?_, fun c => S_rankOfNeed g1 (hgo _ ?_)⟩
        · rw [e, Int32.add_zero]
          show _ = if vOp aS k = 0 then _ else if x = 0 then _ else _
          rw [if_neg ho, if_pos cx, if_neg c]
        · rw [e]
          show _ = if vOp aS k = 0 then _ else if x = 0 then _ else _
          rw [if_neg ho, if_pos cx, if_pos c]
  have hgood : ∀ {po : Int32 → wF → wA → wB → Prop}, (x = 0 ∨ x = 1) → po (sumI aS x NC) (va_up fM 0 0) aM bM → wp_M_sum po x fM aM bM := fun hx hp => M_in (fun _ => iN' n10 (thr0 (ip rfl (hM hx hp)))) (fun z => absurd (by
    rcases hx with e | e
    · rw [e]; decide
    · rw [e]; decide) z)
  refine ⟨fun c => hS (hgood (Or.inl c) hI0.ok), fun c => ⟨fun c2 => hS (hgood (Or.inr c2) hI0.ok), fun c2 => ⟨rfl, M_in (fun z => ?_) (fun _ => ip' rfl (thr1 (iN n10 (bad_out2 hI0 n10))))⟩⟩⟩
  obtain ⟨m, -, m2, m3⟩ := between (l := 0) (h := 1) rfl rfl (by decide) (by decide) z
  have : m = 0 ∨ m = 1 := by omega
  rcases this with e | e
  · rw [e] at m3; exact absurd m3 c
  · rw [e] at m3; exact absurd m3 c2
noncomputable def cif {α : Type} (c : Prop) (x y : α) : α := @ite α c (Classical.propDecidable c) x y
theorem cif_p {α : Type} {c : Prop} {x y : α} (h : c) : cif c x y = x := if_pos h
theorem cif_n {α : Type} {c : Prop} {x y : α} (h : ¬ c) : cif c x y = y := if_neg h
/-- the nearest of the units below k that are free and can -/
noncomputable def altI (a : wA) (n : Nat) : Nat → Int32
  | 0 => -1
  | k + 1 => cif (a 4 k = -1 ∧ vCan a k n ∧ (altI a n k = -1 ∨ ¬ vSec a (altI a n k).toNatClampNeg n ≤ vSec a k n)) (nI k) (altI a n k)
theorem altI_in (a : wA) (n : Nat) : ∀ k, altI a n k = -1 ∨ ∃ u, u < k ∧ altI a n k = nI u
  | 0 => Or.inl rfl
  | k + 1 => by
    show (cif (a 4 k = -1 ∧ vCan a k n ∧ (altI a n k = -1 ∨ ¬ vSec a (altI a n k).toNatClampNeg n ≤ vSec a k n)) (nI k) (altI a n k)) = -1 ∨ ∃ u, u < k + 1 ∧ (cif (a 4 k = -1 ∧ vCan a k n ∧ (altI a n k = -1 ∨ ¬ vSec a (altI a n k).toNatClampNeg n ≤ vSec a k n)) (nI k) (altI a n k)) = nI u
    by_cases h : a 4 k = -1 ∧ vCan a k n ∧ (altI a n k = -1 ∨ ¬ vSec a (altI a n k).toNatClampNeg n ≤ vSec a k n)
    · rw [cif_p h]; exact Or.inr ⟨k, by omega, rfl⟩
    · rw [cif_n h]
      rcases altI_in a n k with g | ⟨u, u1, u2⟩
      · exact Or.inl g
      · exact Or.inr ⟨u, by omega, u2⟩
theorem altI_y {a : wA} {n k : Nat} (h : a 4 k = -1 ∧ vCan a k n ∧ (altI a n k = -1 ∨ ¬ vSec a (altI a n k).toNatClampNeg n ≤ vSec a k n)) : altI a n (k + 1) = nI k := by
  unfold altI; exact cif_p h
theorem altI_n {a : wA} {n k : Nat} (h : ¬ (a 4 k = -1 ∧ vCan a k n ∧ (altI a n k = -1 ∨ ¬ vSec a (altI a n k).toNatClampNeg n ≤ vSec a k n))) : altI a n (k + 1) = altI a n k := by
  conv => lhs; unfold altI
  exact cif_n h
theorem okc_alternative_Inv : okc_alternative Inv := by
  intro x fS aS bS fM aM bM hI
  have hI0 := hI
  obtain ⟨U, IC, NC, rs, rr, hN⟩ := hI
  have hs := hN.sta
  obtain ⟨k0, h2, h3, h4, h5, h6, h7, h8, h9⟩ := hN
  obtain ⟨⟨k11, k12, k13⟩, ⟨k21, k22, k23⟩, ⟨k31, k32, k33⟩, k4, k5⟩ := id k0
  have hs0 : Sta fS aS (va_up fM 0 0) aM U IC NC rs rr := hs.cf (fun _ _ => rfl) (fun k hk _ => va_up_ne _ _ (by omega))
  refine S_checkNeed k31 k33 (fun q => Or.inl ⟨rfl, M_isBelow k32 (by omega) (fun j hj e => absurd e (q j hj)) (fun _ => ip' rfl (iN' n10 (thr1 (iN n10 (bad_out2 hI0 n10)))))⟩) (fun n hn e => ?_)
  subst e
  obtain ⟨g1, g2, g3, g4, g5, g6, g7⟩ := hs.nd hn
  have hi6 : vInc aS n < 6 := by omega
  rw [nI_clamp (by omega), g4]
  refine ⟨vp_in_nI (by omega) (by decide), S_checkOpen hi6 (fun z => Or.inr ⟨rfl, ?_⟩) (fun z => ?_)⟩
  · refine M_isBelow k32 (by omega) (fun j hj e => iN' n10 (ip' rfl (M_isOpen hs hn (ip' z (thr2 (iN n10 (bad_out2 hI0 (by decide)))))))) (fun y => absurd rfl (y n hn))
  have hM : ∀ {po : Int32 → wF → wA → wB → Prop}, po (altI aS n U) (va_up fM 0 0) aM bM → wp_M_alternative po (nI n) fM aM bM := by
    intro po hp
    refine M_isBelow k32 (by omega) (fun j hj e => iN' n10 (ip' rfl (M_isOpen hs hn (iN' z (thr0 (ip rfl ?_)))))) (fun y => absurd rfl (y n hn))
    refine pk_loop (σ := Int32) (fun m k s => wp_M_alternative_54 po m (nI n) s (nI k) (va_up fM 0 0) aM bM) (fun k s => s = altI aS n k) U 0 (-1) (by omega) rfl ?_ ?_
    · intro m s e
      exact pk_le U U (fun _ => by rw [e]; exact hp) (fun y => absurd y (by omega)) ((va_up_ne _ _ (by decide)).trans k12)
    · intro m k s hk e ih
      refine pk_le U k (fun y => absurd y (by omega)) (fun _ => ?_) ((va_up_ne _ _ (by decide)).trans k12)
      have hno : ¬ (aS 4 k = -1 ∧ vCan aS k n ∧ (altI aS n k = -1 ∨ ¬ vSec aS (altI aS n k).toNatClampNeg n ≤ vSec aS k n)) → wp_M_alternative_54 po m (nI n) s (nI k + 1) (va_up fM 0 0) aM bM := fun h => by
        rw [nI_1]
        exact ih s (by rw [e, altI_n h])
      have hyes : (aS 4 k = -1 ∧ vCan aS k n ∧ (altI aS n k = -1 ∨ ¬ vSec aS (altI aS n k).toNatClampNeg n ≤ vSec aS k n)) → wp_M_alternative_54 po m (nI n) (nI k) (nI k + 1) (va_up fM 0 0) aM bM := fun h => by
        rw [nI_1]
        exact ih (nI k) (by rw [altI_y h])
      obtain ⟨f1, f2⟩ := h7.of k13 k33 hk
      refine M_canFill hs0 hk hn (fun hc => iN n10 (M_needOf (x := aS 4 k) (NC := NC) ((va_up_ne _ _ (by decide)).trans k32) k33 f1 f2 ⟨fun c => ip rfl (hno (fun q => ?_)), fun c => iN n10 ?_⟩)) (fun hc => ip rfl (ip rfl (hno (fun q => hc q.2.1))))
      · rw [q.1] at c; exact absurd c (by decide)
      · have c4 : aS 4 k = -1 := by
          rcases h7.un k13 k33 (u := k) (by omega) with q | ⟨n', q1, q2, -⟩
          · exact q.1
          · rw [q2] at c; exact absurd (nI_pos' (by omega)) c
        refine ⟨fun c2 => hyes ⟨c4, hc, Or.inl ?_⟩, fun c2 => ?_⟩
        · rcases altI_in aS n k with q | ⟨u, u1, u2⟩
          · exact q
          · rw [e, u2] at c2; exact absurd c2 (nI_pos (by omega))
        · rcases altI_in aS n k with q | ⟨u, u1, u2⟩
          · rw [e, q] at c2; exact absurd m1neg c2
          · have s1 := (hs.sec (u := u) (by omega) hn).1
            have s2 := (hs.sec (u := k) (by omega) hn).1
            have ec : (altI aS n k).toNatClampNeg = u := by rw [u2, nI_clamp (by omega)]
            rw [nI_clamp (by omega), e, u2, g5, six, six, nI_clamp (by omega), nI_clamp (by omega), s1, s2, ← u2, ← e]
            refine ⟨vp_in_nI (by omega) (by decide), vp_in_nI (by omega) (by decide), vp_in_nI (by omega) (by decide), vp_in_nI (by omega) (by decide), fun c3 => hno (fun q => ?_), fun c3 => hyes ⟨c4, hc, Or.inr (by rw [ec]; exact c3)⟩⟩
            rcases q.2.2 with y | y
            · rw [y] at u2; exact m1ne (by omega) u2.symm
            · rw [ec] at y; exact y c3
  refine pk_loop (σ := Int32) (fun m k s => wp_S_alternative_19 _ _ m (nI n) s (nI k) fS aS bS) (fun k s => s = altI aS n k) U 0 (-1) (by omega) rfl ?_ ?_
  · intro m s e
    refine pk_le U U (fun _ => ?_) (fun y => absurd y (by omega)) k11
    rw [e]
    exact hM hI0.ok
  · intro m k s hk e ih
    refine pk_le U k (fun y => absurd y (by omega)) (fun _ => ?_) k11
    have hno : ¬ (aS 4 k = -1 ∧ vCan aS k n ∧ (altI aS n k = -1 ∨ ¬ vSec aS (altI aS n k).toNatClampNeg n ≤ vSec aS k n)) → wp_S_alternative_19 _ _ m (nI n) s (nI k + 1) fS aS bS := fun h => by
      rw [nI_1]
      exact ih s (by rw [e, altI_n h])
    have hyes : (aS 4 k = -1 ∧ vCan aS k n ∧ (altI aS n k = -1 ∨ ¬ vSec aS (altI aS n k).toNatClampNeg n ≤ vSec aS k n)) → wp_S_alternative_19 _ _ m (nI n) (nI k) (nI k + 1) fS aS bS := fun h => by
      rw [nI_1]
      exact ih (nI k) (by rw [altI_y h])
    rw [nI_clamp (by omega)]
    refine ⟨vp_in_nI (by omega) (by decide), fun c => hno (fun q => c q.1), fun c => S_canFill (by omega) g1 (fun hc => iN n10 ⟨fun c2 => hyes ⟨c, hc, Or.inl (by rw [← e]; exact c2)⟩, fun c2 => ?_⟩) (fun hc => ip rfl (hno (fun q => hc q.2.1)))⟩
    rcases altI_in aS n k with q | ⟨u, u1, u2⟩
    · rw [e] at c2; exact absurd q c2
    · have ec : (altI aS n k).toNatClampNeg = u := by rw [u2, nI_clamp (by omega)]
      refine S_secondsTo (by omega) g1 ?_
      rw [e, u2]
      refine S_secondsTo (by omega) g1 ?_
      rw [← u2, ← e]
      refine ⟨fun c3 => hno (fun q => ?_), fun c3 => hyes ⟨c, hc, Or.inr (by rw [ec]; exact c3)⟩⟩
      rcases q.2.2 with y | y
      · rw [y] at u2; exact m1ne (by omega) u2.symm
      · rw [ec] at y; exact y c3
