/-! seconds, fills, needAt, stay, recall, broken -/
section THR
variable {po : Int32 → wF → wA → wB → Prop} {x2 x3 x4 : Int32} {f : wF} {a : wA} {b : wB}
theorem thr0 (h : po 0 (va_up f 0 0) a b) : wp_M_throwing po 0 0 0 0 f a b := M_thr (fun _ => h) (fun c => absurd (show thr 0 0 0 0 = 0 by decide) c)
theorem thr1 (h : po 1 (va_up f 0 1) a b) : wp_M_throwing po 1 x2 x3 x4 f a b := M_thr (fun c => absurd (show (1 : Int32) = 0 from c) n10) (fun _ => h)
theorem thr2 (h : po 1 (va_up f 0 2) a b) : wp_M_throwing po 0 1 x3 x4 f a b := M_thr (fun c => absurd (show (2 : Int32) = 0 from c) (by decide)) (fun _ => h)
theorem thr3 (h : po 1 (va_up f 0 3) a b) : wp_M_throwing po 0 0 1 x4 f a b := M_thr (fun c => absurd (show (3 : Int32) = 0 from c) (by decide)) (fun _ => h)
theorem thr4 (h : po 1 (va_up f 0 4) a b) : wp_M_throwing po 0 0 0 1 f a b := M_thr (fun c => absurd (show (4 : Int32) = 0 from c) (by decide)) (fun _ => h)
end THR
theorem ninj {i j : Nat} (hi : i < 2 ^ 31) (hj : j < 2 ^ 31) (e : nI i = nI j) : i = j := (nI_eq hi hj).mp e
theorem M_seconds {po : wF → wA → wB → Prop} {x1 x2 x3 : Int32} {f : wF} {a : wA} {b : wB} {U IC : Nat} (hf : f 1 = nI U) (hU : U ≤ 12) (hg : f 2 = nI IC) (hI : IC ≤ 6)
    (h1 : (∀ j, j < U → x1 ≠ nI j) ∨ (∀ j, j < IC → x2 ≠ nI j) → po (va_up f 0 1) a b) (h2 : ¬ (-1 ≤ x3 ∧ x3 ≤ 99999) → ((∃ j, j < U ∧ x1 = nI j) ∧ ∃ j, j < IC ∧ x2 = nI j) → po (va_up f 0 2) a b)
    (h3 : ∀ u i, u < U → i < IC → x1 = nI u → x2 = nI i → (-1 ≤ x3 ∧ x3 ≤ 99999) → po (va_up f 0 0) (va_up a 3 (upd (a 3) (6 * u + i) x3)) b) : wp_M_seconds po x1 x2 x3 f a b := by
  refine M_isUnit hf hU (fun u hu e => iN n10 ?_) (fun q => ip rfl ?_)
  · refine M_isIncident hg hI (fun i hi e2 => iN' n10 ?_) (fun q => ip' rfl ?_)
    · refine M_in (fun q => iN' n10 (thr0 (ip rfl ?_))) (fun q => ip' rfl (thr2 (iN n10 (h2 q ⟨⟨u, hu, e⟩, ⟨i, hi, e2⟩⟩))))
      rw [e, e2, six, nI_clamp (by omega)]
      refine ⟨vp_in_nI (by omega) (by decide), ?_⟩
      exact h3 u i hu hi e e2 q
    · exact M_in (fun _ => iN' n10 (thr1 (iN n10 (h1 (Or.inr q))))) (fun _ => ip' rfl (thr1 (iN n10 (h1 (Or.inr q)))))
  · exact M_in (fun _ => iN' n10 (thr1 (iN n10 (h1 (Or.inl q))))) (fun _ => ip' rfl (thr1 (iN n10 (h1 (Or.inl q)))))
theorem okc_seconds_Inv : okc_seconds Inv := by
  intro x1 x2 x3 fS aS bS fM aM bM hI
  have hI0 := hI
  obtain ⟨U, IC, NC, rs, rr, k0, h2, h3, h4, h5, h6, h7, h8, h9⟩ := hI
  obtain ⟨⟨k11, k12, k13⟩, ⟨k21, k22, k23⟩, k3, k4, k5⟩ := id k0
  refine S_checkUnit k11 k13 (fun q => Or.inl ⟨rfl, M_seconds k12 k13 k22 k23 (fun _ => bad_out hI0) (fun _ z => ?_) (fun u i hu hi e => absurd e (q u hu))⟩) (fun u hu e => ?_)
  · obtain ⟨⟨j, hj, e⟩, -⟩ := z; exact absurd e (q j hj)
  refine S_checkIncident k21 k23 (fun q => Or.inl ⟨rfl, M_seconds k12 k13 k22 k23 (fun _ => bad_out hI0) (fun _ z => ?_) (fun u i hu hi _ e => absurd e (q i hi))⟩) (fun i hi e2 => ?_)
  · obtain ⟨-, ⟨j, hj, e⟩⟩ := z; exact absurd e (q j hj)
  have hno : ¬ ((∀ j, j < U → x1 ≠ nI j) ∨ (∀ j, j < IC → x2 ≠ nI j)) := by
    rintro (z | z)
    · exact z u hu e
    · exact z i hi e2
  refine S_checkSeconds (fun q => Or.inr ⟨rfl, M_seconds k12 k13 k22 k23 (fun z => absurd z hno) (fun _ _ => bad_out hI0) (fun _ _ _ _ _ _ z => absurd z q)⟩) (fun q => ?_)
  subst e e2
  refine ⟨vp_in_nI (by omega) (by decide), vp_in_nI (by omega) (by decide), M_seconds k12 k13 k22 k23 (fun z => absurd z hno) (fun z => absurd q z) (fun u' i' hu' hi' e3 e4 _ => ?_)⟩
  have e5 := ninj (by omega) (by omega) e3
  have e6 := ninj (by omega) (by omega) e4
  subst e5 e6
  rw [nI_clamp (by omega), nI_clamp (by omega)]
  refine ⟨va_up_self _ _ _, U, IC, NC, rs, rr, k0.c (fun _ _ => rfl) (fun k hk _ => va_up_ne _ _ (by omega)), h2.c (va_up_ne _ _ (by omega)) rfl, h3.c (va_up_ne _ _ (by omega)) rfl, ?_, h5.c (va_up_ne _ _ (by omega)) (va_up_ne _ _ (by omega)) rfl rfl, h6.c (va_up_ne _ _ (by omega)) (va_up_ne _ _ (by omega)) rfl rfl, h7.c (va_up_ne _ _ (by omega)) (va_up_ne _ _ (by omega)) (va_up_ne _ _ (by omega)) (va_up_ne _ _ (by omega)) (va_up_ne _ _ (by omega)) (va_up_ne _ _ (by omega)) rfl rfl, h8.c (va_up_ne _ _ (by omega)) rfl, h9.c (fun i hi => mg_ne hi)⟩
  intro v j hv hj
  rw [va_up_self]
  by_cases e1 : v = u
  · subst e1
    rw [va_up_self]
    by_cases e7 : j = i
    · subst e7
      rw [pk_us, pk_us]
      exact ⟨rfl, sOK_of q⟩
    · rw [pk_un e7, pk_un (by omega)]
      exact h4 v j hv hj
  · rw [va_up_ne _ _ (by omega), pk_un (by omega)]
    exact h4 v j hv hj
/-! what the reference finds for a unit is what the class keeps -/
theorem iFill.of {aS aM : wA} {U NC : Nat} (h : iFill aS aM U NC) (hU : U ≤ 12) (hNC : NC ≤ 10) {u : Nat} (hu : u < U) : (∀ n, n < NC → aM 8 n = nI u → aS 4 u = nI n) ∧ ((∀ n, n < NC → aM 8 n ≠ nI u) → aS 4 u = -1) := by
  refine ⟨fun n hn e => ?_, fun q => ?_⟩
  · obtain ⟨g1, g2⟩ := (h.1 n (by omega)).1 hn
    rcases g2 with ⟨g2, -⟩ | ⟨v, g2, g3, g4, g5⟩
    · rw [g1, g2] at e
      exact absurd e.symm (m1ne (by omega))
    · rw [g1, g3] at e
      have := ninj (by omega) (by omega) e
      subst this
      exact g4
  · rcases (h.2 u (by omega)).2 with g | ⟨n, g1, g2, g3, -⟩
    · exact g.1
    · have := ((h.1 n (by omega)).1 g1).1
      exact absurd (this.trans g3) (q n g1)
theorem okc_fills_Inv : okc_fills Inv := by
  intro x1 fS aS bS fM aM bM hI
  have hI0 := hI
  obtain ⟨U, IC, NC, rs, rr, k0, h2, h3, h4, h5, h6, h7, h8, h9⟩ := hI
  obtain ⟨⟨k11, k12, k13⟩, k2, ⟨k31, k32, k33⟩, k4, k5⟩ := id k0
  refine S_checkUnit k11 k13 (fun q => ⟨rfl, M_isUnit k12 k13 (fun j hj e => absurd e (q j hj)) (fun _ => ip' rfl (thr1 (iN n10 (bad_out2 hI0 n10))))⟩) (fun u hu e => ?_)
  subst e
  refine ⟨vp_in_nI (by omega) (by decide), M_isUnit k12 k13 (fun j hj e => iN' n10 (thr0 (ip rfl ?_))) (fun z => absurd rfl (z u hu))⟩
  obtain ⟨f1, f2⟩ := h7.of k13 k33 hu
  refine M_needOf (x := aS 4 u) (NC := NC) ((va_up_ne _ _ (by decide)).trans k32) k33 f1 f2 ?_
  rw [nI_clamp (by omega)]
  exact ⟨va_up_self _ _ _, fun _ => out_get, hI0.out (fun j hj => (va_up_ne _ _ hj).trans (mg_ne hj)) (fun k hk => va_up_ne _ _ hk)⟩
theorem InvN.sta {fS fM : wF} {aS aM : wA} {bS : wB} {U IC NC rs rr : Nat} (h : InvN fS aS bS fM aM U IC NC rs rr) : Sta fS aS fM aM U IC NC rs rr := by
  obtain ⟨k0, h2, h3, h4, h5, h6, h7, h8, h9⟩ := h
  exact ⟨k0, h2, h3, h4, h5, h6, h8⟩
theorem Sta.cf {fS fM fS' fM' : wF} {aS aM : wA} {U IC NC rs rr : Nat} (h : Sta fS aS fM aM U IC NC rs rr) (hS : ∀ k, k < 5 → fS' k = fS k) (hM : ∀ k, 1 ≤ k → k ≤ 5 → fM' k = fM k) : Sta fS' aS fM' aM U IC NC rs rr := ⟨h.1.c hS hM, h.2⟩
theorem okc_needAt_Inv : okc_needAt Inv := by
  intro x1 x2 fS aS bS fM aM bM hI
  have hI0 := hI
  obtain ⟨U, IC, NC, rs, rr, hN⟩ := hI
  have hs := hN.sta
  obtain ⟨k0, h2, h3, h4, h5, h6, h7, h8, h9⟩ := hN
  obtain ⟨⟨k11, k12, k13⟩, k2, ⟨k31, k32, k33⟩, k4, k5⟩ := id k0
  have good : ∀ v : Int32, (va_up fM 0 0) 0 = 0 ∧ ((0 : Int32) = 0 → (va_up (mgB bS bS) 57 (vp_updL ((mgB bS bS) 57) (0 : Int32).toNatClampNeg v.toInt64)) 57 (0 : Int32).toNatClampNeg = v.toInt64) ∧ Inv fS aS (va_up (mgB bS bS) 57 (vp_updL ((mgB bS bS) 57) (0 : Int32).toNatClampNeg v.toInt64)) (va_up fM 0 0) aM bM := fun v => ⟨va_up_self _ _ _, fun _ => out_get, hI0.out (fun j hj => (va_up_ne _ _ hj).trans (mg_ne hj)) (fun k hk => va_up_ne _ _ hk)⟩
  refine S_checkNeed k31 k33 (fun q => ⟨rfl, M_isBelow k32 (by omega) (fun j hj e => absurd e (q j hj)) (fun _ => ip rfl (thr1 (iN n10 (bad_out2 hI0 n10))))⟩) (fun n hn e => ?_)
  subst e
  have hs0 : Sta fS aS (va_up fM 0 0) aM U IC NC rs rr := hs.cf (fun _ _ => rfl) (fun k hk _ => va_up_ne _ _ (by omega))
  obtain ⟨g1, g2, g3, g4, g5, g6, g7⟩ := hs.nd hn
  have hin : ∀ {P : Prop}, (0 ≤ x2 ∧ x2 ≤ 3 → P) → (¬ (0 ≤ x2 ∧ x2 ≤ 3) → P) → P := fun p q => (Classical.em _).elim p q
  have hM : ∀ {po : Int32 → wF → wA → wB → Prop}, (0 ≤ x2 ∧ x2 ≤ 3) → (x2 = 0 → po (aM 6 n) (va_up fM 0 0) aM bM) → (x2 = 1 → po (aM 7 n) (va_up fM 0 0) aM bM) → (x2 = 2 → po (aM 8 n) (va_up fM 0 0) aM bM) → (¬ x2 = 0 → ¬ x2 = 1 → ¬ x2 = 2 → po (vOp aS n) (va_up fM 0 0) aM bM) → wp_M_needAt po (nI n) x2 fM aM bM := by
    intro po hx p0 p1 p2 p3
    refine M_isBelow k32 (by omega) (fun j hj e => iN n10 ?_) (fun z => absurd rfl (z n hn))
    refine M_in (fun _ => iN' n10 (thr0 (ip rfl ?_))) (fun z => absurd hx z)
    rw [nI_clamp (by omega)]
    refine ⟨fun c0 => ⟨fun c1 => ⟨fun c2 => M_isOpen hs0 hn ?_, fun c2 => ⟨vp_in_nI (by omega) (by decide), p2 c2⟩⟩, fun c1 => ⟨vp_in_nI (by omega) (by decide), p1 c1⟩⟩, fun c0 => ⟨vp_in_nI (by omega) (by decide), p0 c0⟩⟩
    have g := p3 c0 c1 c2
    rcases hs.op2 hn with z | z
    · rw [z] at g ⊢; exact ip rfl g
    · rw [z] at g ⊢; exact iN n10 g
  refine ⟨fun c => ⟨vp_in_nI (by omega) (by decide), hM (by rw [c]; decide) (fun _ => ?_) (fun z => absurd (c.symm.trans z) (by decide)) (fun z => absurd (c.symm.trans z) (by decide)) (fun z => absurd c z)⟩, fun c => ⟨vp_in_nI (by omega) (by decide), hM (by rw [c]; decide) (fun z => absurd (c.symm.trans z) (by decide)) (fun _ => ?_) (fun z => absurd (c.symm.trans z) (by decide)) (fun _ z => absurd c z)⟩, fun c => ⟨vp_in_nI (by omega) (by decide), hM (by rw [c]; decide) (fun z => absurd (c.symm.trans z) (by decide)) (fun z => absurd (c.symm.trans z) (by decide)) (fun _ => ?_) (fun _ _ z => absurd c z)⟩, fun c => S_isOpenNeed g1 (hs.op2 hn) ?_, fun c0 c1 c2 c3 => ⟨rfl, M_isBelow k32 (by omega) (fun j hj e => iN n10 (M_in (fun z => ?_) (fun _ => ip' rfl (thr1 (iN n10 (bad_out2 hI0 n10)))))) (fun z => absurd rfl (z n hn))⟩⟩
  · rw [nI_clamp (by omega), g4, g5]; exact good _
  · rw [nI_clamp (by omega), g6, g7]; exact good _
  · rw [nI_clamp (by omega), ((h7.1 n (by omega)).1 hn).1]; exact good _
  · have hm : wp_M_needAt (fun r f2 a2 b2 => wp_M_thrown (fun t f3 a3 b3 => t = 0 ∧ ((0 : Int32) = 0 → (va_up (mgB bS bS) 57 (vp_updL ((mgB bS bS) 57) (0 : Int32).toNatClampNeg (vOp aS n).toInt64)) 57 (0 : Int32).toNatClampNeg = r.toInt64) ∧ Inv fS aS (va_up (mgB bS bS) 57 (vp_updL ((mgB bS bS) 57) (0 : Int32).toNatClampNeg (vOp aS n).toInt64)) f3 a3 b3) f2 a2 b2) (nI n) x2 fM aM bM := hM (by rw [c]; decide) (fun z => absurd (c.symm.trans z) (by decide)) (fun z => absurd (c.symm.trans z) (by decide)) (fun z => absurd (c.symm.trans z) (by decide)) (fun _ _ _ => good _)
    rcases hs.op2 hn with z | z
    · rw [z] at hm ⊢; exact ip rfl hm
    · rw [z] at hm ⊢; exact iN n10 hm
  · obtain ⟨k, q1, q2, q3⟩ := between (l := 0) (h := 3) rfl rfl (by decide) (by decide) z
    have : k = 0 ∨ k = 1 ∨ k = 2 ∨ k = 3 := by omega
    rcases this with e | e | e | e
    · rw [e] at q3; exact absurd q3 c0
    · rw [e] at q3; exact absurd q3 c1
    · rw [e] at q3; exact absurd q3 c2
    · rw [e] at q3; exact absurd q3 c3
