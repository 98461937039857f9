/-! reserve, incident, rank, seconds -/
theorem nar1 : vp_nar .boolean (1 : Int32) = 1 := by decide
theorem nar0 : vp_nar .boolean (0 : Int32) = 0 := by decide
/-- a refused call -/
theorem bad_out {fS fM : wF} {aS aM : wA} {bS bM : wB} (hI : Inv fS aS bS fM aM bM) {c : Int32} {b3 : wB} : va_up fM 0 c 0 = c ∧ Inv fS aS (mgB bS bS) (va_up fM 0 c) aM b3 := ⟨va_up_self _ _ _, hI.out (fun j hj => mg_ne hj) (fun k hk => va_up_ne _ _ hk)⟩
theorem bad_out2 {fS fM : wF} {aS aM : wA} {bS bM : wB} (hI : Inv fS aS bS fM aM bM) {c : Int32} {b3 : wB} {P : Prop} (hc : ¬ c = 0) : va_up fM 0 c 0 = c ∧ (c = 0 → P) ∧ Inv fS aS (mgB bS bS) (va_up fM 0 c) aM b3 := ⟨va_up_self _ _ _, fun q => absurd q hc, hI.out (fun j hj => mg_ne hj) (fun k hk => va_up_ne _ _ hk)⟩
theorem between {x lo hi : Int32} {l h : Nat} (el : lo = nI l) (eh : hi = nI h) (hh : h < 2 ^ 31) (hl : l ≤ h) (q : lo ≤ x ∧ x ≤ hi) : ∃ k, l ≤ k ∧ k ≤ h ∧ x = nI k := by
  subst el eh
  have h1 := q.1
  have h2 := q.2
  rw [Int32.le_iff_toInt_le] at h1 h2
  rw [nI_toInt (by omega)] at h1 h2
  obtain ⟨j, hj, e4⟩ := nI_of (x := x) (by rw [Int32.lt_iff_toInt_lt]; have : (0 : Int32).toInt = 0 := by decide
                                           omega)
  rw [e4, nI_toInt hj] at h1 h2
  exact ⟨j, by omega, by omega, e4⟩
theorem okc_reserve_Inv : okc_reserve Inv := by
  intro x1 x2 fS aS bS fM aM bM hI
  have hI0 := hI
  obtain ⟨U, IC, NC, rs, rr, ⟨k1, k2, k3, k4, k5⟩, h2, h3, h4, h5, h6, h7, h8, h9⟩ := hI
  have hbad : ¬ ((0 ≤ x1 ∧ x1 ≤ 12) ∧ (1 ≤ x2 ∧ x2 ≤ 10)) → wp_M_reserve (fun f2 a2 b2 => wp_M_thrown (fun t f3 a3 b3 => t = 1 ∧ Inv fS aS (mgB bS bS) f3 a3 b3) f2 a2 b2) x1 x2 fM aM bM := by
    intro q
    refine M_in (fun c1 => ⟨fun c => absurd c (by decide), fun _ => ?_⟩) (fun _ => ⟨fun _ => ?_, fun c => absurd rfl c⟩)
    · refine M_in (fun c2 => absurd ⟨c1, c2⟩ q) (fun _ => ⟨fun c => absurd rfl c, fun _ => ?_⟩)
      exact M_thr (fun c => absurd c (by decide)) (fun _ => ⟨fun c => absurd c (by decide), fun _ => bad_out hI0⟩)
    · exact M_thr (fun c => absurd c (by decide)) (fun _ => ⟨fun c => absurd c (by decide), fun _ => bad_out hI0⟩)
  refine ⟨fun c => Or.elim (Classical.em True) (fun _ => ?_) (fun z => absurd trivial z), fun c => ⟨fun c2 => ⟨fun c3 => ?_, fun c3 => ⟨fun c4 => ?_, fun c4 => ?_⟩⟩, fun c2 => ?_⟩⟩
  · exact ⟨rfl, hbad (fun q => absurd c (Int32.not_lt.mpr q.1.1))⟩
  · exact ⟨rfl, hbad (fun q => absurd c3 (Int32.not_lt.mpr q.2.1))⟩
  · have q1 : 0 ≤ x1 ∧ x1 ≤ 12 := ⟨Int32.not_lt.mp c, c2⟩
    have q2 : 1 ≤ x2 ∧ x2 ≤ 10 := ⟨Int32.not_lt.mp c3, c4⟩
    refine M_in (fun _ => ⟨fun c => absurd c (by decide), fun _ => M_in (fun _ => ⟨fun _ => M_thr (fun _ => ⟨fun _ => ?_, fun c => absurd rfl c⟩) (fun c => absurd (show thr 0 0 0 0 = 0 by decide) c), fun c => absurd c (by decide)⟩) (fun z => absurd q2 z)⟩) (fun z => absurd q1 z)
    obtain ⟨r1, -, e2, e3⟩ := between (l := 0) (h := 12) rfl rfl (by decide) (by decide) q1
    obtain ⟨r2, e4, e5, e6⟩ := between (l := 1) (h := 10) rfl rfl (by decide) (by decide) q2
    refine ⟨(va_up_ne _ _ (by decide)).trans ((va_up_ne _ _ (by decide)).trans (va_up_self _ _ _)), U, IC, NC, r1, r2, ⟨⟨?_, ?_, k1.2.2⟩, ⟨?_, ?_, k2.2.2⟩, ⟨?_, ?_, k3.2.2⟩, ⟨?_, ?_, e2⟩, ⟨?_, ?_, e4, e5⟩⟩, h2, h3, h4, h5, h6, h7, h8, h9.c (fun i hi => mg_ne hi)⟩
    · exact (va_up_ne _ _ (by decide)).trans ((va_up_ne _ _ (by decide)).trans k1.1)
    · exact (va_up_ne _ _ (by decide)).trans ((va_up_ne _ _ (by decide)).trans ((va_up_ne _ _ (by decide)).trans k1.2.1))
    · exact (va_up_ne _ _ (by decide)).trans ((va_up_ne _ _ (by decide)).trans k2.1)
    · exact (va_up_ne _ _ (by decide)).trans ((va_up_ne _ _ (by decide)).trans ((va_up_ne _ _ (by decide)).trans k2.2.1))
    · exact (va_up_ne _ _ (by decide)).trans ((va_up_ne _ _ (by decide)).trans k3.1)
    · exact (va_up_ne _ _ (by decide)).trans ((va_up_ne _ _ (by decide)).trans ((va_up_ne _ _ (by decide)).trans k3.2.1))
    · exact (va_up_ne _ _ (by decide)).trans ((va_up_self _ _ _).trans e3)
    · exact (va_up_ne _ _ (by decide)).trans ((va_up_self _ _ _).trans e3)
    · exact (va_up_self _ _ _).trans e6
    · exact (va_up_self _ _ _).trans e6
  · exact ⟨rfl, hbad (fun q => c4 q.2.2)⟩
  · exact ⟨rfl, hbad (fun q => c2 q.1.2)⟩
theorem M_incident {po : Int32 → wF → wA → wB → Prop} {x : Int32} {f : wF} {a : wA} {b : wB} {U : Nat} (hf : f 2 = nI U) (hU : U ≤ 6) (h1 : ¬ (1 ≤ x ∧ x ≤ 9) → po 0 (va_up f 0 1) a b) (h2 : 1 ≤ x ∧ x ≤ 9 → U = 6 → po 0 (va_up f 0 2) a b) (h3 : 1 ≤ x ∧ x ≤ 9 → U < 6 → po (nI U) (va_up (va_up f 0 0) 2 (nI (U + 1))) (va_up a 4 (upd (a 4) U x)) b) : wp_M_incident po x f a b := by
  have e0 : ∀ v : Int32, (va_up f 0 v) 2 = nI U := fun v => (va_up_ne _ _ (by decide)).trans hf
  refine M_in (fun q => ?_) (fun q => ?_)
  · refine ⟨fun _ => ?_, fun c => absurd c (by decide)⟩
    by_cases e : U = 6
    · subst e
      refine ⟨fun c => absurd hf c, fun _ => M_thr (fun c => absurd c (by decide)) (fun _ => ⟨fun c => absurd c (by decide), fun _ => h2 q rfl⟩)⟩
    · refine ⟨fun _ => M_thr (fun _ => ⟨fun _ => ?_, fun c => absurd rfl c⟩) (fun c => absurd (show thr 0 0 0 0 = 0 by decide) c), fun c => ?_⟩
      · rw [va_up_self, e0]
        refine ⟨vp_in_nI (by omega) (by decide), ?_⟩
        rw [nI_1, nI_pred, nI_clamp (by omega)]
        exact h3 q (by omega)
      · rw [hf] at c
        exact absurd ((nI_eq (by omega) (by decide)).mp (show nI U = nI 6 from c)) e
  · refine ⟨fun c => absurd rfl c, fun _ => ?_⟩
    refine ⟨fun _ => M_thr (fun c => absurd c (by decide)) (fun _ => ⟨fun c => absurd c (by decide), fun _ => h1 q⟩), fun _ => M_thr (fun c => absurd c (by decide)) (fun _ => ⟨fun c => absurd c (by decide), fun _ => h1 q⟩)⟩
theorem S_incident {po : Int32 → wF → wA → wB → Prop} {px : String → wF → wA → wB → Prop} {x : Int32} {f : wF} {a : wA} {b : wB} {U : Nat} (hf : f 1 = nI U) (hU : U ≤ 6) (h1 : ¬ (1 ≤ x ∧ x ≤ 9) → px "java/lang/IndexOutOfBoundsException" f a b) (h2 : 1 ≤ x ∧ x ≤ 9 → U = 6 → px "java/lang/UnsupportedOperationException" f a b) (h3 : 1 ≤ x ∧ x ≤ 9 → U < 6 → po (nI U) (va_up f 1 (nI (U + 1))) (va_up (va_up a 18 (upd (a 18) U x)) 19 (upd (a 19) U 1)) b) : wp_S_incident po px x f a b := by
  refine S_checkRank h1 (fun q => ?_)
  rw [va_up_self, hf]
  by_cases e : U = 6
  · subst e
    exact ⟨fun c => absurd c (by decide), fun _ => h2 q rfl⟩
  · have hlt : U < 6 := by omega
    refine ⟨fun _ => ⟨vp_in_nI hlt (by decide), vp_in_nI hlt (by decide), ?_⟩, fun c => absurd (show nI U < nI 6 from nI_lt hlt (by decide)) c⟩
    rw [nI_1, nI_pred, nI_clamp (by omega), nar1, va_up_ne _ _ (show (19 : Nat) ≠ 18 by decide)]
    exact h3 q hlt
theorem okc_incident_Inv : okc_incident Inv := by
  intro x fS aS bS fM aM bM hI
  have hI0 := hI
  obtain ⟨U, IC, NC, rs, rr, ⟨k1, k2, k3, k4, k5⟩, h2, h3, h4, h5, h6, h7, h8, h9⟩ := hI
  obtain ⟨k21, k22, k23⟩ := k2
  refine S_incident (U := IC) k21 k23 (fun q => Or.inl ⟨rfl, ?_⟩) (fun q e => Or.inr ⟨rfl, ?_⟩) (fun q hlt => ?_)
  · exact M_incident (U := IC) k22 k23 (fun _ => bad_out2 hI0 (by decide)) (fun z => absurd z q) (fun z => absurd z q)
  · exact M_incident (U := IC) k22 k23 (fun z => absurd q z) (fun _ _ => bad_out2 hI0 (by decide)) (fun _ z => by omega)
  · refine M_incident (U := IC) k22 k23 (fun z => absurd q z) (fun _ z => by omega) (fun _ _ => ?_)
    obtain ⟨r, r1, r2, rfl⟩ := rank_of q
    refine ⟨(va_up_ne _ _ (by decide)).trans (va_up_self _ _ _), fun _ => out_get, U, IC + 1, NC, rs, rr, ⟨⟨?_, ?_, k1.2.2⟩, ⟨va_up_self _ _ _, va_up_self _ _ _, by omega⟩, ⟨?_, ?_, k3.2.2⟩, ⟨?_, ?_, k4.2.2⟩, ⟨?_, ?_, k5.2.2⟩⟩, h2.c rfl rfl, h3.c rfl rfl, h4.c (fun u hu => ?_) rfl, ?_, ?_, ?_, h8.c rfl rfl, ?_⟩
    · exact (va_up_ne _ _ (by decide)).trans k1.1
    · exact (va_up_ne _ _ (by decide)).trans ((va_up_ne _ _ (by decide)).trans k1.2.1)
    · exact (va_up_ne _ _ (by decide)).trans k3.1
    · exact (va_up_ne _ _ (by decide)).trans ((va_up_ne _ _ (by decide)).trans k3.2.1)
    · exact (va_up_ne _ _ (by decide)).trans k4.1
    · exact (va_up_ne _ _ (by decide)).trans ((va_up_ne _ _ (by decide)).trans k4.2.1)
    · exact (va_up_ne _ _ (by decide)).trans k5.1
    · exact (va_up_ne _ _ (by decide)).trans ((va_up_ne _ _ (by decide)).trans k5.2.1)
    · rw [va_up_ne _ _ (by omega), va_up_ne _ _ (by omega)]
    · intro i hi
      rw [va_up_ne _ _ (show (18 : Nat) ≠ 19 by decide), va_up_self, va_up_self, va_up_self, va_up_ne _ _ (show (5 : Nat) ≠ 4 by decide)]
      refine ⟨fun hic => ?_, fun hic => (h5 i hi).2 (by omega)⟩
      by_cases e1 : i = IC
      · subst e1
        rw [pk_us, pk_us, pk_us]
        exact ⟨⟨r, r1, r2, rfl, rfl⟩, Or.inl ⟨rfl, (h5 i hi).2 (by omega)⟩⟩
      · rw [pk_un e1, pk_un e1, pk_un e1]
        exact (h5 i hi).1 (by omega)
    · intro n hn
      obtain ⟨⟨c, c1, c2⟩, g⟩ := h6 n hn
      exact ⟨⟨c, by omega, c2⟩, g⟩
    · refine ⟨h7.1, fun u hu => ⟨(h7.2 u hu).1, ?_⟩⟩
      rcases (h7.2 u hu).2 with g | ⟨n, g1, g2, g3, g4, g5, g6⟩
      · exact Or.inl g
      · refine Or.inr ⟨n, g1, g2, g3, g4, g5, ?_⟩
        obtain ⟨⟨c, c1, c2, c3⟩, -⟩ := h6 n g1
        have g7 : aS 19 (aS 20 n).toNatClampNeg = 1 := g6
        rw [c2, nI_clamp (by omega)] at g7
        show (va_up (va_up aS 18 (upd (aS 18) IC (nI r))) 19 (upd (aS 19) IC 1)) 19 (aS 20 n).toNatClampNeg = 1
        rw [va_up_self, c2, nI_clamp (by omega), pk_un (by omega)]
        exact g7
    · intro r' u hr hu
      rw [va_up_ne _ _ (by omega), mg_ne (by omega)]
      exact h9 r' u hr hu
/-! rank, seconds -/
theorem M_rank {po : wF → wA → wB → Prop} {x1 x2 : Int32} {f : wF} {a : wA} {b : wB} {n : Nat} (hf : f 2 = nI n) (hn : n ≤ 6) (h1 : (∀ j, j < n → x1 ≠ nI j) → po (va_up f 0 1) a b) (h2 : ∀ j, j < n → x1 = nI j → ¬ (1 ≤ x2 ∧ x2 ≤ 9) → po (va_up f 0 2) a b) (h3 : ∀ j, j < n → x1 = nI j → 1 ≤ x2 ∧ x2 ≤ 9 → ¬ a 5 j = 0 → po (va_up f 0 3) a b) (h4 : ∀ j, j < n → x1 = nI j → 1 ≤ x2 ∧ x2 ≤ 9 → a 5 j = 0 → po (va_up f 0 0) (va_up a 4 (upd (a 4) j x2)) b) : wp_M_rank po x1 x2 f a b := by
  refine M_isIncident hf hn (fun j hj e => ⟨fun _ => ?_, fun c => absurd c (by decide)⟩) (fun q => ⟨fun c => absurd rfl c, fun _ => ?_⟩)
  · subst e
    refine M_in (fun q => ⟨fun _ => ⟨fun c => absurd rfl c, fun _ => ⟨vp_in_nI (by omega) (by decide), ?_⟩⟩, fun c => absurd c (by decide)⟩) (fun q => ⟨fun c => absurd rfl c, fun _ => ⟨fun c => absurd rfl c, fun _ => ⟨vp_in_nI (by omega) (by decide), fun _ => ?_, fun _ => ?_⟩⟩⟩)
    · rw [nI_clamp (by omega)]
      refine ⟨fun c => M_thr (fun _ => ⟨fun _ => ⟨vp_in_nI (by omega) (by decide), ?_⟩, fun c => absurd rfl c⟩) (fun c => absurd (show thr 0 0 0 0 = 0 by decide) c), fun c => M_thr (fun c => absurd c (by decide)) (fun _ => ⟨fun c => absurd c (by decide), fun _ => h3 j hj rfl q c⟩)⟩
      rw [nI_clamp (by omega)]
      exact h4 j hj rfl q c
    · exact M_thr (fun c => absurd c (by decide)) (fun _ => ⟨fun c => absurd c (by decide), fun _ => h2 j hj rfl q⟩)
    · exact M_thr (fun c => absurd c (by decide)) (fun _ => ⟨fun c => absurd c (by decide), fun _ => h2 j hj rfl q⟩)
  · refine M_in (fun _ => ⟨fun _ => ⟨fun _ => ?_, fun c => absurd c (by decide)⟩, fun c => absurd c (by decide)⟩) (fun _ => ⟨fun c => absurd rfl c, fun _ => ⟨fun _ => ?_, fun c => absurd c (by decide)⟩⟩)
    · exact M_thr (fun c => absurd c (by decide)) (fun _ => ⟨fun c => absurd c (by decide), fun _ => h1 q⟩)
    · exact M_thr (fun c => absurd c (by decide)) (fun _ => ⟨fun c => absurd c (by decide), fun _ => h1 q⟩)
theorem okc_rank_Inv : okc_rank Inv := by
  intro x1 x2 fS aS bS fM aM bM hI
  have hI0 := hI
  obtain ⟨U, IC, NC, rs, rr, ⟨k1, k2, k3, k4, k5⟩, h2, h3, h4, h5, h6, h7, h8, h9⟩ := hI
  have k0 : iCnt fS fM U IC NC rs rr := ⟨k1, k2, k3, k4, k5⟩
  obtain ⟨k21, k22, k23⟩ := k2
  refine S_checkIncident k21 k23 (fun q => Or.inl ⟨rfl, M_rank k22 k23 (fun _ => bad_out hI0) (fun j hj e => absurd e (q j hj)) (fun j hj e => absurd e (q j hj)) (fun j hj e => absurd e (q j hj))⟩) (fun j hj e => ?_)
  have hne : ∀ z : ∀ i, i < IC → x1 ≠ nI i, False := fun z => z j hj e
  subst e
  have hinj : ∀ i, i < IC → nI j = nI i → i = j := fun i hi e => ((nI_eq (by omega) (by omega)).mp e).symm
  refine S_checkRank (fun q => Or.inr (Or.inl ⟨rfl, M_rank k22 k23 (fun z => absurd rfl (z j hj)) (fun i hi e _ => bad_out hI0) (fun i hi e z => absurd z q) (fun i hi e z => absurd z q)⟩)) (fun q => ?_)
  have hop := ((h5 j (by omega)).1 hj).2
  refine S_checkOpen (by omega) (fun z => Or.inr (Or.inr ⟨rfl, M_rank k22 k23 (fun z => absurd rfl (z j hj)) (fun i hi e y => absurd q y) (fun i hi e _ _ => bad_out hI0) (fun i hi e _ y => ?_)⟩)) (fun z => ⟨vp_in_nI (by omega) (by decide), M_rank k22 k23 (fun z => absurd rfl (z j hj)) (fun i hi e y => absurd q y) (fun i hi e _ y => ?_) (fun i hi e _ y => ?_)⟩)
  · rw [hinj i hi e] at y
    rcases hop with g | g
    · exact absurd (g.1.symm.trans z) (by decide)
    · exact absurd (g.2.symm.trans y) (by decide)
  · rw [hinj i hi e] at y
    rcases hop with g | g
    · exact absurd g.2 y
    · exact absurd g.1 z
  · have ei := hinj i hi e
    subst ei
    obtain ⟨r, r1, r2, rfl⟩ := rank_of q
    rw [nI_clamp (by omega)]
    refine ⟨va_up_self _ _ _, U, IC, NC, rs, rr, k0.c (fun _ _ => rfl) (fun k hk _ => va_up_ne _ _ (by omega)), h2.c rfl rfl, h3.c rfl rfl, h4.c (fun u hu => va_up_ne _ _ (by omega)) rfl, ?_, h6.c rfl rfl rfl rfl, h7.c rfl rfl rfl rfl rfl rfl rfl rfl, h8.c rfl rfl, h9.c (fun i hi => mg_ne hi)⟩
    intro m hm
    rw [va_up_self, va_up_self, va_up_ne _ _ (show (19 : Nat) ≠ 18 by decide), va_up_ne _ _ (show (5 : Nat) ≠ 4 by decide)]
    refine ⟨fun hmc => ?_, (h5 m hm).2⟩
    by_cases e1 : m = i
    · subst e1
      rw [pk_us, pk_us]
      exact ⟨⟨r, r1, r2, rfl, rfl⟩, hop⟩
    · rw [pk_un e1, pk_un e1]
      exact (h5 m hm).1 hmc
