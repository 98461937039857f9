/-! close, need -/
theorem okc_close_Inv : okc_close Inv := by
  intro x1 fS aS bS fM aM bM hI
  have hI0 := hI
  obtain ⟨U, IC, NC, rs, rr, hN⟩ := hI
  have hs := hN.sta
  obtain ⟨k0, h2, h3, h4, h5, h6, h7, h8, h9⟩ := hN
  obtain ⟨⟨k11, k12, k13⟩, ⟨k21, k22, k23⟩, ⟨k31, k32, k33⟩, k4, k5⟩ := id k0
  refine S_checkIncident k21 k23 (fun q => Or.inl ⟨rfl, M_isIncident k22 k23 (fun j hj e => absurd e (q j hj)) (fun _ => ip' rfl (iN' n10 (thr1 (iN n10 (bad_out hI0)))))⟩) (fun i hi e => ?_)
  subst e
  have hop := ((h5 i (by omega)).1 hi).2
  refine S_checkOpen (by omega) (fun z => Or.inr ⟨rfl, ?_⟩) (fun z => ⟨vp_in_nI (by omega) (by decide), ?_⟩)
  · refine M_isIncident k22 k23 (fun j hj e => iN' n10 (ip' rfl ?_)) (fun y => absurd rfl (y i hi))
    rw [nI_clamp (by omega)]
    refine ⟨vp_in_nI (by omega) (by decide), iN ?_ (thr2 (iN n10 (bad_out hI0)))⟩
    rcases hop with g | g
    · exact absurd (g.1.symm.trans z) (by decide)
    · rw [g.2]; exact n10
  have hM5 : aM 5 i = 0 := by
    rcases hop with g | g
    · exact g.2
    · exact absurd g.1 z
  rw [nI_clamp (by omega), nar0]
  -- the class's loop
  refine pk_loop (σ := wA) (fun m k s => wp_S_close_19 _ _ m (nI i) (nI k) fS s bS) (fun k s => ∃ sM : wA, (∀ j, j ≠ 19 → j ≠ 22 → j ≠ 4 → j ≠ 3 → s j = aS j) ∧ s 19 = upd (aS 19) i 0 ∧ (∀ j, j ≠ 8 → j ≠ 9 → sM j = aM j) ∧ iFill (va_up s 19 (aS 19)) sM U NC ∧ (∀ n, n < k → vInc aS n = i → s 22 n = -1) ∧ (∀ n, vInc aS n ≠ i → n < NC → sM 8 n = aM 8 n ∧ sM 9 n = aM 9 n) ∧ (∀ n, n < NC → vInc aS n = i → (sM 8 n = aM 8 n ∧ sM 9 n = aM 9 n) ∨ (sM 8 n = -1 ∧ sM 9 n = 0))) NC 0 _ (by omega) ?_ ?_ ?_
  · refine ⟨aM, fun j q1 _ _ _ => va_up_ne _ _ q1, va_up_self _ _ _, fun _ _ _ => rfl, h7.c rfl rfl rfl rfl (va_up_self _ _ _) rfl rfl rfl, fun n hn => absurd hn (Nat.not_lt_zero n), fun _ _ _ => ⟨rfl, rfl⟩, fun _ _ _ => Or.inl ⟨rfl, rfl⟩⟩
  · intro m s hs1
    refine pk_le NC NC (fun _ => ?_) (fun y => absurd y (by omega)) k31
    obtain ⟨sM, q1, q2, q3, q4, q5, q6, q7⟩ := hs1
    refine M_isIncident k22 k23 (fun j hj e => iN' n10 (ip' rfl ?_)) (fun y => absurd rfl (y i hi))
    rw [nI_clamp (by omega)]
    refine ⟨vp_in_nI (by omega) (by decide), ip hM5 (thr0 (ip rfl ⟨vp_in_nI (by omega) (by decide), ?_⟩))⟩
    rw [nI_clamp (by omega), nar1]
    -- the reference's loop
    refine pk_loop (σ := wA) (fun m k t => wp_M_close_52 _ m (nI i) (nI k) (va_up fM 0 0) t bM) (fun k t => (∀ j, j ≠ 5 → j ≠ 8 → j ≠ 9 → t j = aM j) ∧ t 5 = upd (aM 5) i 1 ∧ (∀ n, n < k → n < NC → vInc aS n = i → t 8 n = -1 ∧ t 9 n = 0) ∧ (∀ n, n < NC → (vInc aS n ≠ i ∨ k ≤ n) → t 8 n = aM 8 n ∧ t 9 n = aM 9 n)) NC 0 _ (by omega) ?_ ?_ ?_
    · exact ⟨fun j y1 _ _ => va_up_ne _ _ y1, va_up_self _ _ _, fun n hn => absurd hn (Nat.not_lt_zero n), fun n hn _ => ⟨rfl, rfl⟩⟩
    · intro m2 t ht
      refine pk_le NC NC (fun _ => ?_) (fun y => absurd y (by omega)) ((va_up_ne _ _ (by decide)).trans k32)
      obtain ⟨t1, t2, t3, t4⟩ := ht
      have tm : ∀ n, n < NC → t 8 n = sM 8 n ∧ t 9 n = sM 9 n := by
        intro n hn
        by_cases ei : vInc aS n = i
        · obtain ⟨y1, y2⟩ := t3 n hn hn ei
          have y3 := q5 n hn ei
          obtain ⟨y4, y5⟩ := (q4.1 n (by omega)).1 hn
          have y6 : va_up s 19 (aS 19) 22 n = -1 := y3
          rw [y6] at y4 y5
          rcases y5 with y5 | ⟨v, v1, v2, -⟩
          · rw [y1, y2, y4, y5.2]; exact ⟨rfl, rfl⟩
          · exact absurd v2.symm (m1ne (by omega))
        · obtain ⟨y1, y2⟩ := t4 n hn (Or.inl ei)
          obtain ⟨y3, y4⟩ := q6 n ei hn
          exact ⟨y1.trans y3.symm, y2.trans y4.symm⟩
      have s20 : s 20 = aS 20 := q1 20 (by decide) (by decide) (by decide) (by decide)
      refine ⟨va_up_self _ _ _, U, IC, NC, rs, rr, k0.c (fun _ _ => rfl) (fun k hk _ => va_up_ne _ _ (by omega)), h2.c (q1 1 (by decide) (by decide) (by decide) (by decide)) (t1 1 (by decide) (by decide) (by decide)), h3.c (q1 2 (by decide) (by decide) (by decide) (by decide)) (t1 2 (by decide) (by decide) (by decide)), h4.c (fun u hu => q1 _ (by omega) (by omega) (by omega) (by omega)) (t1 3 (by decide) (by decide) (by decide)), ?_, h6.c s20 (q1 21 (by decide) (by decide) (by decide) (by decide)) (t1 6 (by decide) (by decide) (by decide)) (t1 7 (by decide) (by decide) (by decide)), ?_, h8.c (q1 23 (by decide) (by decide) (by decide) (by decide)) (t1 10 (by decide) (by decide) (by decide)), h9.c (fun i hi => mg_ne hi)⟩
      · intro j hj
        rw [q1 18 (by decide) (by decide) (by decide) (by decide), q2, t1 4 (by decide) (by decide) (by decide), t2]
        by_cases ej : j = i
        · subst ej
          rw [pk_us, pk_us]
          exact ⟨fun hc => ⟨((h5 j hj).1 hc).1, Or.inr ⟨rfl, rfl⟩⟩, fun hc => absurd hi hc⟩
        · rw [pk_un ej, pk_un ej]
          exact h5 j hj
      · refine ⟨fun n hn => ⟨fun hc => ?_, (q4.1 n hn).2⟩, fun u hu => ⟨(q4.2 u hu).1, ?_⟩⟩
        · rw [(tm n hc).1, (tm n hc).2]
          exact (q4.1 n hn).1 hc
        · rcases (q4.2 u hu).2 with y | ⟨n, y1, y2, y3, y4, y5, y6⟩
          · exact Or.inl y
          · refine Or.inr ⟨n, y1, y2, y3, y4, y5, ?_⟩
            have e20 : (s 20 n).toNatClampNeg = vInc aS n := by rw [s20]; rfl
            have y7 : aS 19 (s 20 n).toNatClampNeg = 1 := by
              have : va_up s 19 (aS 19) 19 (va_up s 19 (aS 19) 20 n).toNatClampNeg = 1 := y6
              rw [va_up_self] at this
              exact this
            rw [e20] at y7 ⊢
            rw [q2]
            have ne : vInc aS n ≠ i := fun e => by
              have := q5 n y1 e
              have y3' : s 22 n = nI u := y3
              rw [y3'] at this
              exact absurd this (m1ne (by omega))
            rw [pk_un ne]
            exact y7
    · intro m2 k t hk ht ih
      refine pk_le NC k (fun y => absurd y (by omega)) (fun _ => ?_) ((va_up_ne _ _ (by decide)).trans k32)
      obtain ⟨t1, t2, t3, t4⟩ := ht
      obtain ⟨g1, g2, g3, g4, g5, g6, g7⟩ := hs.nd hk
      have e6 : t 6 k = nI (vInc aS k) := by rw [t1 6 (by decide) (by decide) (by decide)]; exact g5
      refine ⟨vp_in_nI (by omega) (by decide), ?_⟩
      rw [nI_clamp (by omega), e6]
      refine ⟨fun c => ?_, fun c => M_leave (by omega) ?_⟩
      · show wp_M_close_52 _ m2 (nI i) (nI k + 1) _ t bM
        rw [nI_1]
        refine ih t ⟨t1, t2, fun n hn hc ei => ?_, fun n hc hor => t4 n hc (by
          rcases hor with y | y
          · exact Or.inl y
          · exact Or.inr (by omega))⟩
        by_cases ek : n = k
        · subst ek; rw [ei] at c; exact absurd rfl c
        · exact t3 n (by omega) hc ei
      · show wp_M_close_52 _ m2 (nI i) (nI k + 1) _ _ bM
        rw [nI_1]
        have ci : vInc aS k = i := ninj (by omega) (by omega) c
        refine ih _ ⟨fun j y1 y2 y3 => ?_, ?_, fun n hn hc ei => ?_, fun n hc hor => ?_⟩
        · rw [va_up_ne _ _ y3, va_up_ne _ _ y2]; exact t1 j y1 y2 y3
        · rw [va_up_ne _ _ (by decide), va_up_ne _ _ (by decide)]; exact t2
        · rw [va_up_self, va_up_ne _ _ (show (8 : Nat) ≠ 9 by decide), va_up_self]
          by_cases ek : n = k
          · subst ek; rw [pk_us, pk_us]; exact ⟨rfl, rfl⟩
          · rw [pk_un ek, pk_un ek]; exact t3 n (by omega) hc ei
        · rw [va_up_self, va_up_ne _ _ (show (8 : Nat) ≠ 9 by decide), va_up_self]
          have ek : n ≠ k := fun e => by
            rcases hor with y | y
            · rw [e] at y; exact y ci
            · omega
          rw [pk_un ek, pk_un ek]
          exact t4 n hc (by
            rcases hor with y | y
            · exact Or.inl y
            · exact Or.inr (by omega))
  · intro m k s hk hs1 ih
    refine pk_le NC k (fun y => absurd y (by omega)) (fun _ => ?_) k31
    obtain ⟨sM, q1, q2, q3, q4, q5, q6, q7⟩ := hs1
    obtain ⟨g1, g2, g3, g4, g5, g6, g7⟩ := hs.nd hk
    have e20 : s 20 k = nI (vInc aS k) := by rw [q1 20 (by decide) (by decide) (by decide) (by decide)]; exact g4
    refine ⟨vp_in_nI (by omega) (by decide), ?_⟩
    rw [nI_clamp (by omega), e20]
    have step : (vInc aS k = i → s 22 k = -1) → wp_S_close_19 _ _ m (nI i) (nI (k + 1)) fS s bS := fun hz => ih s ⟨sM, q1, q2, q3, q4, fun n hn ei => by
      by_cases ek : n = k
      · subst ek; exact hz ei
      · exact q5 n (by omega) ei, q6, q7⟩
    refine ⟨fun c => ?_, fun c => ⟨vp_in_nI (by omega) (by decide), fun c2 => ?_, fun c2 => ⟨vp_in_nI (by omega) (by decide), ?_⟩⟩⟩
    · show wp_S_close_19 _ _ m (nI i) (nI k + 1) fS s bS
      rw [nI_1]
      exact step (fun e => absurd (by rw [e]) c)
    · show wp_S_close_19 _ _ m (nI i) (nI k + 1) fS s bS
      rw [nI_1]
      exact step (fun _ => c2)
    · have ci : vInc aS k = i := ninj (by omega) (by omega) c
      have y := ((q4.1 k (by omega)).1 hk).2
      rcases y with y | ⟨u, u1, u2, u3, u4⟩
      · exact absurd y.1 c2
      · have u2' : s 22 k = nI u := u2
        have u3' : s 4 u = nI k := u3
        rw [u2']
        refine S_free (by omega) (Or.inr ⟨k, by omega, u3'⟩) (fun y => absurd (u3'.symm.trans y) (m1ne (by omega))) (fun n hn en => ?_)
        have en2 : n = k := ninj (by omega) (by omega) (en.symm.trans u3')
        subst en2
        show wp_S_close_19 _ _ m (nI i) (nI n + 1) fS _ bS
        rw [nI_1]
        refine ih _ ⟨va_up (va_up sM 8 (upd (sM 8) n (-1))) 9 (upd (sM 9) n 0), fun j y1 y2 y3 y4 => ?_, ?_, fun j y1 y2 => ?_, q4.leave (aM' := va_up (va_up sM 8 (upd (sM 8) n (-1))) 9 (upd (sM 9) n 0)) k13 k33 u1 hk u3 ?_ ?_ ?_ ?_ ?_ ?_ ?_ ?_, fun n' hn' ei => ?_, fun n' y1 y2 => ?_, fun n' y1 y2 => ?_⟩
        · rw [va_up_ne _ _ y4, va_up_ne _ _ y3, va_up_ne _ _ y2]; exact q1 j y1 y2 y3 y4
        · exact q2
        · rw [va_up_ne _ _ y2, va_up_ne _ _ y1]; exact q3 j y1 y2
        · rfl
        · rfl
        · rfl
        · rfl
        · rfl
        · rfl
        · rfl
        · intro v hv; rfl
        · show upd (s 22) n (-1) n' = -1
          by_cases ek : n' = n
          · subst ek; exact pk_us
          · rw [pk_un ek]; exact q5 n' (by omega) ei
        · show upd (sM 8) n (-1) n' = aM 8 n' ∧ upd (sM 9) n 0 n' = aM 9 n'
          have ek : n' ≠ n := fun e => by rw [e] at y1; exact y1 ci
          rw [pk_un ek, pk_un ek]
          exact q6 n' y1 y2
        · show (upd (sM 8) n (-1) n' = aM 8 n' ∧ upd (sM 9) n 0 n' = aM 9 n') ∨ (upd (sM 8) n (-1) n' = -1 ∧ upd (sM 9) n 0 n' = 0)
          by_cases ek : n' = n
          · subst ek; rw [pk_us, pk_us]; exact Or.inr ⟨rfl, rfl⟩
          · rw [pk_un ek, pk_un ek]; exact q7 n' y1 y2
