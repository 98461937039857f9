/-! stay, recall, broken -/
theorem upd_id {f : Nat → Int32} {k : Nat} {x : Int32} (h : f k = x) : upd f k x = f := by
  funext j
  by_cases e : j = k
  · subst e; rw [pk_us, h]
  · rw [pk_un e]
theorem va_up_id {α : Type} {f : Nat → α} {k : Nat} {x : α} (h : f k = x) : va_up f k x = f := by
  funext j
  by_cases e : j = k
  · subst e; rw [va_up_self, h]
  · rw [va_up_ne _ _ e]
/-- a unit leaves its need -/
theorem iFill.leave {aS aM aS' aM' : wA} {U NC u n : Nat} (h : iFill aS aM U NC) (hU : U ≤ 12) (hNC : NC ≤ 10) (hu : u < U) (hn : n < NC) (h4 : aS 4 u = nI n)
    (e22 : aS' 22 = upd (aS 22) n (-1)) (e4 : aS' 4 = upd (aS 4) u (-1)) (e3 : aS' 3 = upd (aS 3) u 0) (e8 : aM' 8 = upd (aM 8) n (-1)) (e9 : aM' 9 = upd (aM 9) n 0) (e20 : aS' 20 = aS 20) (e19 : aS' 19 = aS 19) (e2 : ∀ v, v ≠ u → aS' 2 v = aS 2 v) : iFill aS' aM' U NC := by
  unfold iFill
  rw [e22, e4, e3, e8, e9, e20, e19]
  refine ⟨fun m hm => ⟨fun hc => ?_, fun hc => ?_⟩, fun v hv => ?_⟩
  · by_cases em : m = n
    · subst em
      rw [pk_us, pk_us, pk_us]
      exact ⟨rfl, Or.inl ⟨rfl, rfl⟩⟩
    · rw [pk_un em, pk_un em, pk_un em]
      obtain ⟨g1, g2⟩ := (h.1 m hm).1 hc
      refine ⟨g1, ?_⟩
      rcases g2 with g2 | ⟨w, w1, w2, w3, w4⟩
      · exact Or.inl g2
      · refine Or.inr ⟨w, w1, w2, ?_, ?_⟩
        · have : w ≠ u := fun e => em (ninj (by omega) (by omega) (by rw [← w3, ← h4, e]))
          rw [pk_un this]; exact w3
        · have : w ≠ u := fun e => em (ninj (by omega) (by omega) (by rw [← w3, ← h4, e]))
          rw [pk_un this]; exact w4
  · rw [pk_un (by omega)]
    exact (h.1 m hm).2 hc
  · by_cases ev : v = u
    · subst ev
      rw [pk_us, pk_us]
      exact ⟨Or.inl rfl, Or.inl ⟨rfl, rfl⟩⟩
    · rw [pk_un ev, pk_un ev, e2 v ev]
      refine ⟨(h.2 v hv).1, ?_⟩
      rcases (h.2 v hv).2 with g | ⟨m, g1, g2, g3, g4, g5, g6⟩
      · exact Or.inl g
      · refine Or.inr ⟨m, g1, g2, ?_, g4, g5, g6⟩
        by_cases em : m = n
        · subst em
          have : aS 22 m = nI u := by
            rcases (h.2 u (by omega)).2 with q | ⟨m', q1, q2, q3, -⟩
            · exact absurd (h4.symm.trans q.1) (m1ne (by omega))
            · have := ninj (by omega) (by omega) (h4.symm.trans q2)
              subst this; exact q3
          exact absurd (ninj (by omega) (by omega) (g3.symm.trans this)) ev
        · rw [pk_un em]; exact g3
/-- the unit of a need, from the unit's side -/
theorem iFill.un {aS aM : wA} {U NC u : Nat} (h : iFill aS aM U NC) (hU : U ≤ 12) (hNC : NC ≤ 10) (hu : u < 12) : (aS 4 u = -1 ∧ aS 3 u = 0) ∨ ∃ n, n < NC ∧ aS 4 u = nI n ∧ aS 22 n = nI u ∧ aM 8 n = nI u ∧ u < U ∧ aM 9 n = aS 3 u ∧ aS 2 u = 0 ∧ vOp aS n = 1 := by
  rcases (h.2 u hu).2 with g | ⟨n, g1, g2, g3, g4, g5, g6⟩
  · exact Or.inl g
  · obtain ⟨q1, q2⟩ := (h.1 n (by omega)).1 g1
    refine Or.inr ⟨n, g1, g2, g3, q1.trans g3, g4, ?_, g5, g6⟩
    rcases q2 with q2 | ⟨v, v1, v2, v3, v4⟩
    · rw [q2.1] at g3
      exact absurd g3.symm (m1ne (by omega))
    · have := ninj (by omega) (by omega) (g3.symm.trans v2)
      subst this; exact v4
theorem S_free {po : wF → wA → wB → Prop} {u : Nat} {f : wF} {a : wA} {b : wB} (hu : u < 12) (hc : a 4 u = -1 ∨ ∃ n, n < 10 ∧ a 4 u = nI n) (h0 : a 4 u = -1 → po f (va_up (va_up a 4 (upd (a 4) u (-1))) 3 (upd (a 3) u 0)) b)
    (h1 : ∀ n, n < 10 → a 4 u = nI n → po f (va_up (va_up (va_up a 22 (upd (a 22) n (-1))) 4 (upd (a 4) u (-1))) 3 (upd (a 3) u 0)) b) : wp_S_free po (nI u) f a b := by
  unfold wp_S_free
  rw [nI_clamp (by omega)]
  refine ⟨vp_in_nI hu (by decide), fun c => ?_, fun c => ?_⟩
  · unfold wp_S_free_22
    rw [nI_clamp (by omega), nar0, va_up_ne _ _ (show (3 : Nat) ≠ 4 by decide)]
    exact ⟨vp_in_nI hu (by decide), vp_in_nI hu (by decide), h0 c⟩
  · rcases hc with hc | ⟨n, hn, hc⟩
    · exact absurd hc c
    · rw [hc]
      refine ⟨vp_in_nI hu (by decide), vp_in_nI hn (by decide), ?_⟩
      unfold wp_S_free_22
      rw [nI_clamp (by omega), nI_clamp (by omega), nar0, va_up_ne _ _ (show (3 : Nat) ≠ 4 by decide), va_up_ne _ _ (show (3 : Nat) ≠ 22 by decide), va_up_ne _ _ (show (4 : Nat) ≠ 22 by decide)]
      exact ⟨vp_in_nI hu (by decide), vp_in_nI hu (by decide), h1 n hn hc⟩
theorem M_leave {po : wF → wA → wB → Prop} {n : Nat} {f : wF} {a : wA} {b : wB} (hn : n < 10) (h : po f (va_up (va_up a 8 (upd (a 8) n (-1))) 9 (upd (a 9) n 0)) b) : wp_M_leave po (nI n) f a b := by
  unfold wp_M_leave
  rw [nI_clamp (by omega), nar0, va_up_ne _ _ (show (9 : Nat) ≠ 8 by decide)]
  exact ⟨vp_in_nI hn (by decide), vp_in_nI hn (by decide), h⟩
theorem okc_recall_Inv : okc_recall Inv := by
  intro x1 fS aS bS fM aM bM hI
  have hI0 := hI
  obtain ⟨U, IC, NC, rs, rr, k0, h2, h3, h4, h5, h6, h7, h8, h9⟩ := hI
  obtain ⟨⟨k11, k12, k13⟩, k2, ⟨k31, k32, k33⟩, k4, k5⟩ := id k0
  refine S_checkUnit k11 k13 (fun q => Or.inl ⟨rfl, M_isUnit k12 k13 (fun j hj e => absurd e (q j hj)) (fun _ => ip' rfl (iN n10 (iN' n10 (thr1 (iN n10 (bad_out hI0))))))⟩) (fun u hu e => ?_)
  subst e
  obtain ⟨f1, f2⟩ := h7.of k13 k33 hu
  have hM : ∀ {po : wF → wA → wB → Prop}, (¬ 0 ≤ aS 4 u → po (va_up fM 0 2) aM bM) → (0 ≤ aS 4 u → wp_M_leave po (aS 4 u) (va_up fM 0 0) aM bM) → wp_M_recall po (nI u) fM aM bM := by
    intro po p1 p2
    refine M_isUnit k12 k13 (fun j hj e => iN' n10 (ip rfl ?_)) (fun z => absurd rfl (z u hu))
    refine M_needOf (x := aS 4 u) (NC := NC) k32 k33 f1 f2 (ip' rfl ⟨fun c => thr0 (ip rfl (p2 c)), fun c => thr2 (iN n10 (p1 c))⟩)
  unfold wp_S_checkSent
  rw [nI_clamp (by omega)]
  rcases h7.un k13 k33 (u := u) (by omega) with ⟨g1, g2⟩ | ⟨n, g1, g2, g3, g4, g5, g6, g7, -⟩
  · refine ⟨vp_in_nI (by omega) (by decide), ip' g1 (Or.inr ⟨rfl, hM (fun _ => bad_out hI0) (fun z => absurd z (by rw [g1]; decide))⟩)⟩
  · have hne : ¬ aS 4 u = -1 := by rw [g2]; exact m1ne (by omega)
    refine ⟨vp_in_nI (by omega) (by decide), iN' hne (S_free (by omega) (Or.inr ⟨n, by omega, g2⟩) (fun z => absurd z hne) (fun m hm e => hM (fun z => absurd (by rw [g2]; exact nI_pos' (by omega)) z) (fun _ => ?_)))⟩
    have em : m = n := ninj (by omega) (by omega) (e.symm.trans g2)
    subst em
    rw [g2]
    refine M_leave (by omega) ⟨va_up_self _ _ _, U, IC, NC, rs, rr, k0.c (fun _ _ => rfl) (fun k hk _ => va_up_ne _ _ (by omega)), h2.c rfl rfl, h3.c rfl rfl, h4.c (fun u hu => ?_) rfl, h5.c rfl rfl rfl rfl, h6.c rfl rfl rfl rfl, h7.leave k13 k33 hu g1 g2 rfl rfl rfl rfl rfl rfl rfl (fun _ _ => rfl), h8.c rfl rfl, h9.c (fun i hi => mg_ne hi)⟩
    rw [va_up_ne _ _ (by omega), va_up_ne _ _ (by omega), va_up_ne _ _ (by omega)]
theorem okc_stay_Inv : okc_stay Inv := by
  intro x1 x2 hx2 fS aS bS fM aM bM hI
  have hI0 := hI
  have hnar : vp_nar .boolean x2 = x2 := by
    rcases hx2 with e | e
    · rw [e]; exact nar0
    · rw [e]; exact nar1
  obtain ⟨U, IC, NC, rs, rr, k0, h2, h3, h4, h5, h6, h7, h8, h9⟩ := hI
  obtain ⟨⟨k11, k12, k13⟩, k2, ⟨k31, k32, k33⟩, k4, k5⟩ := id k0
  refine S_checkUnit k11 k13 (fun q => Or.inl ⟨rfl, M_isUnit k12 k13 (fun j hj e => absurd e (q j hj)) (fun _ => ip' rfl (iN n10 (iN' n10 (thr1 (iN n10 (bad_out hI0))))))⟩) (fun u hu e => ?_)
  subst e
  obtain ⟨f1, f2⟩ := h7.of k13 k33 hu
  unfold wp_S_checkSent
  rw [nI_clamp (by omega)]
  rcases h7.un k13 k33 (u := u) (by omega) with ⟨g1, g2⟩ | ⟨n, g1, g2, g3, g4, g5, g6, g7, g8⟩
  · refine ⟨vp_in_nI (by omega) (by decide), ip' g1 (Or.inr ⟨rfl, ?_⟩)⟩
    refine M_isUnit k12 k13 (fun j hj e => iN' n10 (ip rfl (M_needOf (x := aS 4 u) (NC := NC) k32 k33 f1 f2 (ip' rfl (ip (by rw [g1]; decide) (thr2 (iN n10 (bad_out hI0)))))))) (fun z => absurd rfl (z u hu))
  · have hne : ¬ aS 4 u = -1 := by rw [g2]; exact m1ne (by omega)
    have hM : ∀ {po : wF → wA → wB → Prop}, (aS 3 u = x2 → po (va_up fM 0 2) aM bM) → (¬ aS 3 u = x2 → po (va_up fM 0 0) (va_up aM 9 (upd (aM 9) n x2)) bM) → wp_M_stay po (nI u) x2 fM aM bM := by
      intro po p1 p2
      refine M_isUnit k12 k13 (fun j hj e => iN' n10 (ip rfl (M_needOf (x := aS 4 u) (NC := NC) k32 k33 f1 f2 ?_))) (fun z => absurd rfl (z u hu))
      rw [g2]
      refine ip' rfl (iN (nI_pos (by omega)) (ip (nI_pos' (by omega)) ?_))
      unfold wp_M_stay_55
      rw [nI_clamp (by omega), g6]
      refine ⟨vp_in_nI (by omega) (by decide), fun c => thr0 (ip rfl ⟨vp_in_nI (by omega) (by decide), ?_⟩), fun c => thr2 (iN n10 (p1 c))⟩
      rw [nI_clamp (by omega), hnar]
      exact p2 c
    rw [hnar]
    refine ⟨vp_in_nI (by omega) (by decide), iN' hne ⟨vp_in_nI (by omega) (by decide), fun c => ⟨vp_in_nI (by omega) (by decide), hM (fun z => absurd z c) (fun _ => ?_)⟩, fun c => Or.inr ⟨rfl, hM (fun _ => bad_out hI0) (fun z => absurd c z)⟩⟩⟩
    refine ⟨va_up_self _ _ _, U, IC, NC, rs, rr, k0.c (fun _ _ => rfl) (fun k hk _ => va_up_ne _ _ (by omega)), h2.c rfl rfl, h3.c rfl rfl, h4.c (fun u hu => va_up_ne _ _ (by omega)) rfl, h5.c rfl rfl rfl rfl, h6.c rfl rfl rfl rfl, ?_, h8.c rfl rfl, h9.c (fun i hi => mg_ne hi)⟩
    refine ⟨fun m hm => ⟨fun hc => ?_, (h7.1 m hm).2⟩, fun v hv => ?_⟩
    · rw [va_up_self, va_up_self]
      show aM 8 m = aS 22 m ∧ ((aS 22 m = -1 ∧ upd (aM 9) n x2 m = 0) ∨ ∃ w, w < U ∧ aS 22 m = nI w ∧ aS 4 w = nI m ∧ upd (aM 9) n x2 m = upd (aS 3) u x2 w)
      obtain ⟨q1, q2⟩ := (h7.1 m hm).1 hc
      refine ⟨q1, ?_⟩
      rcases q2 with ⟨q2, q3⟩ | ⟨w, w1, w2, w3, w4⟩
      · have : m ≠ n := fun e => by rw [e, g3] at q2; exact absurd q2 (m1ne (by omega))
        rw [pk_un this]
        exact Or.inl ⟨q2, q3⟩
      · refine Or.inr ⟨w, w1, w2, w3, ?_⟩
        by_cases em : m = n
        · subst em
          have : w = u := ninj (by omega) (by omega) (w2.symm.trans g3)
          subst this
          rw [pk_us, pk_us]
        · have : w ≠ u := fun e => em (ninj (by omega) (by omega) (by rw [← w3, ← g2, e]))
          rw [pk_un em, pk_un this]
          exact w4
    · rw [va_up_self]
      by_cases ev : v = u
      · subst ev
        rw [pk_us]
        refine ⟨hx2, ?_⟩
        rcases (h7.2 v hv).2 with q | q
        · exact absurd q.1 hne
        · exact Or.inr q
      · rw [pk_un ev]
        exact h7.2 v hv
theorem okc_broken_Inv : okc_broken Inv := by
  intro x1 x2 hx2 fS aS bS fM aM bM hI
  have hI0 := hI
  have hnar : vp_nar .boolean x2 = x2 := by
    rcases hx2 with e | e
    · rw [e]; exact nar0
    · rw [e]; exact nar1
  obtain ⟨U, IC, NC, rs, rr, k0, h2, h3, h4, h5, h6, h7, h8, h9⟩ := hI
  obtain ⟨⟨k11, k12, k13⟩, k2, ⟨k31, k32, k33⟩, k4, k5⟩ := id k0
  refine S_checkUnit k11 k13 (fun q => Or.inl ⟨rfl, M_isUnit k12 k13 (fun j hj e => absurd e (q j hj)) (fun _ => ip' rfl (iN' n10 (thr1 (iN n10 (bad_out hI0)))))⟩) (fun u hu e => ?_)
  subst e
  obtain ⟨f1, f2⟩ := h7.of k13 k33 hu
  have hb := h3 u (by omega)
  have hM : ∀ {po : wF → wA → wB → Prop}, (aS 2 u = x2 → po (va_up fM 0 2) aM bM) → (¬ aS 2 u = x2 → aS 4 u < 0 → po (va_up fM 0 0) (va_up aM 2 (upd (aM 2) u x2)) bM) → (∀ n, ¬ aS 2 u = x2 → n < 10 → aS 4 u = nI n → po (va_up fM 0 0) (va_up (va_up (va_up aM 2 (upd (aM 2) u x2)) 8 (upd (aM 8) n (-1))) 9 (upd (aM 9) n 0)) bM) → wp_M_broken po (nI u) x2 fM aM bM := by
    intro po p1 p2 p3
    refine M_isUnit k12 k13 (fun j hj e => iN' n10 (ip' rfl (ip rfl ?_))) (fun z => absurd rfl (z u hu))
    unfold wp_M_broken_33
    rw [nI_clamp (by omega), hb.1]
    refine ⟨vp_in_nI (by omega) (by decide), fun c => thr0 (ip rfl ⟨vp_in_nI (by omega) (by decide), ?_⟩), fun c => thr2 (iN n10 (p1 c))⟩
    rw [nI_clamp (by omega), hnar]
    refine M_needOf (x := aS 4 u) (NC := NC) k32 k33 f1 f2 ⟨fun c2 => p2 c c2, fun c2 => M_needOf (x := aS 4 u) (NC := NC) k32 k33 f1 f2 ?_⟩
    rcases h7.un k13 k33 (u := u) (by omega) with ⟨g1, g2⟩ | ⟨n, g1, g2, g3, g4, g5, g6, g7⟩
    · rw [g1] at c2; exact absurd m1neg c2
    · rw [g2]
      exact M_leave (by omega) (p3 n c (by omega) g2)
  have hbr : ∀ (g : Nat → Int32), iBrk (va_up aS 2 (upd (aS 2) u x2)) (va_up aM 2 (upd (aM 2) u x2)) := by
    intro _ v hv
    rw [va_up_self, va_up_self]
    by_cases ev : v = u
    · subst ev
      rw [pk_us, pk_us]; exact ⟨rfl, hx2⟩
    · rw [pk_un ev, pk_un ev]; exact h3 v hv
  have hbr' := hbr (fun _ => 0)
  rw [nI_clamp (by omega), hnar]
  have hidle : ∀ {bM' : wB}, aS 4 u = -1 → ¬ aS 2 u = x2 → va_up fM 0 0 0 = 0 ∧ Inv fS (va_up aS 2 (upd (aS 2) u x2)) (mgB bS bS) (va_up fM 0 0) (va_up aM 2 (upd (aM 2) u x2)) bM' := by
    intro bM' g1 c
    refine ⟨va_up_self _ _ _, U, IC, NC, rs, rr, k0.c (fun _ _ => rfl) (fun k hk _ => va_up_ne _ _ (by omega)), h2.c rfl rfl, hbr', h4.c (fun u hu => va_up_ne _ _ (by omega)) rfl, h5.c rfl rfl rfl rfl, h6.c rfl rfl rfl rfl, ⟨h7.1, fun v hv => ⟨(h7.2 v hv).1, ?_⟩⟩, h8.c rfl rfl, h9.c (fun i hi => mg_ne hi)⟩
    rcases (h7.2 v hv).2 with q | ⟨n, q1, q2, q3, q4, q5, q6⟩
    · exact Or.inl q
    · refine Or.inr ⟨n, q1, q2, q3, q4, ?_, q6⟩
      rw [va_up_self]
      have : v ≠ u := fun e => by
        rw [e] at q2
        exact absurd (g1.symm.trans q2) (fun z => m1ne (by omega) z.symm)
      rw [pk_un this]; exact q5
  refine ⟨vp_in_nI (by omega) (by decide), fun c => ⟨vp_in_nI (by omega) (by decide), fun c2 => ?_, fun c2 => ?_⟩, fun c => Or.inr ⟨rfl, hM (fun _ => bad_out hI0) (fun z => absurd c z) (fun _ z => absurd c z)⟩⟩
  · have g1 : aS 4 u = -1 := by
      rcases h7.un k13 k33 (u := u) (by omega) with ⟨g1, g2⟩ | ⟨n, g1, g2, g3, g4, g5, g6, g7, -⟩
      · exact g1
      · exact absurd (g7.trans c2.symm) c
    exact hM (fun z => absurd z c) (fun _ _ => hidle g1 c) (fun n _ hn z => absurd (g1.symm.trans z) (fun z => m1ne (by omega) z.symm))
  · have hc : aS 4 u = -1 ∨ ∃ n, n < 10 ∧ aS 4 u = nI n := by
      rcases h7.un k13 k33 (u := u) (by omega) with ⟨g1, g2⟩ | ⟨n, g1, g2, g3⟩
      · exact Or.inl g1
      · exact Or.inr ⟨n, by omega, g2⟩
    refine S_free (by omega) hc (fun z => ?_) (fun m hm z => ?_)
    · have z' : aS 4 u = -1 := z
      have g3 : aS 3 u = 0 := by
        rcases h7.un k13 k33 (u := u) (by omega) with ⟨g1, g2⟩ | ⟨n, g1, g2, g3⟩
        · exact g2
        · exact absurd (z'.symm.trans g2) (fun z => m1ne (by omega) z.symm)
      rw [va_up_ne _ _ (show (4 : Nat) ≠ 2 by decide), va_up_ne _ _ (show (3 : Nat) ≠ 2 by decide), upd_id z', upd_id g3, va_up_id (k := 4) (by rw [va_up_ne _ _ (by decide)]), va_up_id (k := 3) (by rw [va_up_ne _ _ (by decide)])]
      exact hM (fun z => absurd z c) (fun _ _ => hidle z' c) (fun n _ hn z => absurd (z'.symm.trans z) (fun z => m1ne (by omega) z.symm))
    · have z' : aS 4 u = nI m := z
      refine hM (fun z => absurd z c) (fun _ z => absurd z (by rw [z']; exact nI_pos (by omega))) (fun n _ hn e => ?_)
      have en : n = m := ninj (by omega) (by omega) (e.symm.trans z')
      subst en
      have hnc : n < NC := by
        rcases h7.un k13 k33 (u := u) (by omega) with ⟨g1, g2⟩ | ⟨n', g1, g2, g3⟩
        · exact absurd (g1.symm.trans z') (fun z => m1ne (by omega) z.symm)
        · have := ninj (by omega) (by omega) (g2.symm.trans z')
          omega
      refine ⟨va_up_self _ _ _, U, IC, NC, rs, rr, k0.c (fun _ _ => rfl) (fun k hk _ => va_up_ne _ _ (by omega)), h2.c rfl rfl, hbr'.c rfl rfl, h4.c (fun u hu => ?_) rfl, h5.c rfl rfl rfl rfl, h6.c rfl rfl rfl rfl, h7.leave k13 k33 hu hnc z' rfl rfl rfl rfl rfl rfl rfl (fun v hv => ?_), h8.c rfl rfl, h9.c (fun i hi => mg_ne hi)⟩
      · rw [va_up_ne _ _ (by omega), va_up_ne _ _ (by omega), va_up_ne _ _ (by omega), va_up_ne _ _ (by omega)]
      · show upd (aS 2) u x2 v = aS 2 v
        exact pk_un hv
