/-! pieces of the invariant under changes elsewhere -/
theorem iCnt.c {fS fM fS' fM' : wF} {U IC NC rs rr : Nat} (h : iCnt fS fM U IC NC rs rr) (hS : ∀ k, k < 5 → fS' k = fS k) (hM : ∀ k, 1 ≤ k → k ≤ 5 → fM' k = fM k) : iCnt fS' fM' U IC NC rs rr := by
  unfold iCnt
  rw [hS 0 (by decide), hS 1 (by decide), hS 2 (by decide), hS 3 (by decide), hS 4 (by decide), hM 1 (by decide) (by decide), hM 2 (by decide) (by decide), hM 3 (by decide) (by decide), hM 4 (by decide) (by decide), hM 5 (by decide) (by decide)]
  exact h
theorem iUnit.c {aS aM aS' aM' : wA} {U : Nat} (h : iUnit aS aM U) (e1 : aS' 1 = aS 1) (e2 : aM' 1 = aM 1) : iUnit aS' aM' U := by
  unfold iUnit; rw [e1, e2]; exact h
theorem iBrk.c {aS aM aS' aM' : wA} (h : iBrk aS aM) (e1 : aS' 2 = aS 2) (e2 : aM' 2 = aM 2) : iBrk aS' aM' := by
  unfold iBrk; rw [e1, e2]; exact h
theorem iSec.c {aS aM aS' aM' : wA} (h : iSec aS aM) (e1 : ∀ u, u < 12 → aS' (6 + u) = aS (6 + u)) (e2 : aM' 3 = aM 3) : iSec aS' aM' := by
  intro u i hu hi; rw [e1 u hu, e2]; exact h u i hu hi
theorem iInc.c {aS aM aS' aM' : wA} {IC : Nat} (h : iInc aS aM IC) (e1 : aS' 18 = aS 18) (e2 : aS' 19 = aS 19) (e3 : aM' 4 = aM 4) (e4 : aM' 5 = aM 5) : iInc aS' aM' IC := by
  unfold iInc; rw [e1, e2, e3, e4]; exact h
theorem iNeed.c {aS aM aS' aM' : wA} {IC NC : Nat} (h : iNeed aS aM IC NC) (e1 : aS' 20 = aS 20) (e2 : aS' 21 = aS 21) (e3 : aM' 6 = aM 6) (e4 : aM' 7 = aM 7) : iNeed aS' aM' IC NC := by
  unfold iNeed; rw [e1, e2, e3, e4]; exact h
theorem iFill.c {aS aM aS' aM' : wA} {U NC : Nat} (h : iFill aS aM U NC) (e1 : aS' 22 = aS 22) (e2 : aS' 4 = aS 4) (e3 : aS' 3 = aS 3) (e4 : aS' 2 = aS 2) (e5 : aS' 19 = aS 19) (e6 : aS' 20 = aS 20) (e7 : aM' 8 = aM 8) (e8 : aM' 9 = aM 9) : iFill aS' aM' U NC := by
  unfold iFill; rw [e1, e2, e3, e4, e5, e6, e7, e8]; exact h
theorem iLim.c {aS aM aS' aM' : wA} (h : iLim aS aM) (e1 : aS' 23 = aS 23) (e2 : aM' 10 = aM 10) : iLim aS' aM' := by
  unfold iLim; rw [e1, e2]; exact h
theorem iTie.c {bS bS' : wB} (h : iTie bS) (e : ∀ j, j ≠ 57 → bS' j = bS j) : iTie bS' := by
  intro r u hr hu; rw [e _ (by omega)]; exact h r u hr hu
/-! checks of the class -/
theorem S_checkRank {po : wF → wA → wB → Prop} {px : String → wF → wA → wB → Prop} {x : Int32} {f : wF} {a : wA} {b : wB} (h0 : ¬ (1 ≤ x ∧ x ≤ 9) → px "java/lang/IndexOutOfBoundsException" f a b) (h1 : (1 ≤ x ∧ x ≤ 9) → po f a b) : wp_S_checkRank po px x f a b :=
  ⟨fun c => h0 (fun q => absurd c (Int32.not_lt.mpr q.1)), fun c => ⟨fun c2 => h1 ⟨Int32.not_lt.mp c, c2⟩, fun c2 => h0 (fun q => c2 q.2)⟩⟩
theorem S_checkSeconds {po : wF → wA → wB → Prop} {px : String → wF → wA → wB → Prop} {x : Int32} {f : wF} {a : wA} {b : wB} (h0 : ¬ (-1 ≤ x ∧ x ≤ 99999) → px "java/lang/IndexOutOfBoundsException" f a b) (h1 : (-1 ≤ x ∧ x ≤ 99999) → po f a b) : wp_S_checkSeconds po px x f a b :=
  ⟨fun c => h0 (fun q => absurd c (Int32.not_lt.mpr q.1)), fun c => ⟨fun c2 => h1 ⟨Int32.not_lt.mp c, c2⟩, fun c2 => h0 (fun q => c2 q.2)⟩⟩
/-- an index below a count -/
theorem ix {x : Int32} {n : Nat} (hn : n < 2 ^ 31) (h : ¬ x < 0 ∧ x < nI n) : ∃ j, j < n ∧ x = nI j := by
  rcases pk_ix x hn with h1 | h1 | h1
  · exact absurd h1 h.1
  · exact absurd h.2 (Int32.not_lt.mpr h1)
  · exact h1
theorem S_checkIncident {po : wF → wA → wB → Prop} {px : String → wF → wA → wB → Prop} {x : Int32} {f : wF} {a : wA} {b : wB} {n : Nat} (hf : f 1 = nI n) (hn : n ≤ 6) (h0 : (∀ j, j < n → x ≠ nI j) → px "java/lang/IllegalArgumentException" f a b) (h1 : ∀ j, j < n → x = nI j → po f a b) : wp_S_checkIncident po px x f a b := by
  have hb : ∀ c : ¬ (¬ x < 0 ∧ x < nI n), ∀ j, j < n → x ≠ nI j := fun c j hj e => c ⟨by rw [e]; exact nI_pos (by omega), by rw [e]; exact nI_lt hj (by omega)⟩
  refine ⟨fun c => h0 (hb (fun q => q.1 c)), fun c => ?_⟩
  rw [hf]
  refine ⟨fun c2 => ?_, fun c2 => h0 (hb (fun q => c2 q.2))⟩
  obtain ⟨j, hj, e⟩ := ix (by omega) ⟨c, c2⟩
  exact h1 j hj e
theorem S_checkUnit {po : wF → wA → wB → Prop} {px : String → wF → wA → wB → Prop} {x : Int32} {f : wF} {a : wA} {b : wB} {n : Nat} (hf : f 0 = nI n) (hn : n ≤ 12) (h0 : (∀ j, j < n → x ≠ nI j) → px "java/lang/IllegalArgumentException" f a b) (h1 : ∀ j, j < n → x = nI j → po f a b) : wp_S_checkUnit po px x f a b := by
  have hb : ∀ c : ¬ (¬ x < 0 ∧ x < nI n), ∀ j, j < n → x ≠ nI j := fun c j hj e => c ⟨by rw [e]; exact nI_pos (by omega), by rw [e]; exact nI_lt hj (by omega)⟩
  refine ⟨fun c => h0 (hb (fun q => q.1 c)), fun c => ?_⟩
  rw [hf]
  refine ⟨fun c2 => ?_, fun c2 => h0 (hb (fun q => c2 q.2))⟩
  obtain ⟨j, hj, e⟩ := ix (by omega) ⟨c, c2⟩
  exact h1 j hj e
theorem S_checkNeed {po : wF → wA → wB → Prop} {px : String → wF → wA → wB → Prop} {x : Int32} {f : wF} {a : wA} {b : wB} {n : Nat} (hf : f 2 = nI n) (hn : n ≤ 10) (h0 : (∀ j, j < n → x ≠ nI j) → px "java/lang/IllegalArgumentException" f a b) (h1 : ∀ j, j < n → x = nI j → po f a b) : wp_S_checkNeed po px x f a b := by
  have hb : ∀ c : ¬ (¬ x < 0 ∧ x < nI n), ∀ j, j < n → x ≠ nI j := fun c j hj e => c ⟨by rw [e]; exact nI_pos (by omega), by rw [e]; exact nI_lt hj (by omega)⟩
  refine ⟨fun c => h0 (hb (fun q => q.1 c)), fun c => ?_⟩
  rw [hf]
  refine ⟨fun c2 => ?_, fun c2 => h0 (hb (fun q => c2 q.2))⟩
  obtain ⟨j, hj, e⟩ := ix (by omega) ⟨c, c2⟩
  exact h1 j hj e
theorem S_checkSkill {po : wF → wA → wB → Prop} {px : String → wF → wA → wB → Prop} {x : Int32} {f : wF} {a : wA} {b : wB} (h0 : (∀ j, j < 16 → x ≠ nI j) → px "java/lang/IllegalArgumentException" f a b) (h1 : ∀ j, j < 16 → x = nI j → po f a b) : wp_S_checkSkill po px x f a b := by
  have hb : ∀ c : ¬ (¬ x < 0 ∧ x < nI 16), ∀ j, j < 16 → x ≠ nI j := fun c j hj e => c ⟨by rw [e]; exact nI_pos (by omega), by rw [e]; exact nI_lt hj (by omega)⟩
  refine ⟨fun c => h0 (hb (fun q => q.1 c)), fun c => ⟨fun c2 => ?_, fun c2 => h0 (hb (fun q => c2 q.2))⟩⟩
  obtain ⟨j, hj, e⟩ := ix (n := 16) (by omega) ⟨c, c2⟩
  exact h1 j hj e
theorem S_checkOpen {po : wF → wA → wB → Prop} {px : String → wF → wA → wB → Prop} {f : wF} {a : wA} {b : wB} {j : Nat} (hj : j < 6) (h0 : a 19 j = 0 → px "java/lang/IllegalStateException" f a b) (h1 : a 19 j ≠ 0 → po f a b) : wp_S_checkOpen po px (nI j) f a b := by
  refine ⟨vp_in_nI hj (by omega), ?_⟩
  rw [nI_clamp (by omega)]
  exact ⟨h1, h0⟩
/-! the reference's range checks: 'in(x, 0, n - 1)' -/
theorem M_isBelow {po : Int32 → wF → wA → wB → Prop} {x y : Int32} {n : Nat} {f : wF} {a : wA} {b : wB} (hy : y = nI n) (hn : n < 2 ^ 30) (h1 : ∀ j, j < n → x = nI j → po 1 f a b) (h0 : (∀ j, j < n → x ≠ nI j) → po 0 f a b) : wp_M_in po x (0 : Int32) (y - (1 : Int32)) f a b := by
  subst hy
  have e1 : (nI n - (1 : Int32)).toInt = (n : Int) - 1 := by
    have := pk_sub_toInt (a := n) (b := 1) hn (by decide)
    exact this
  refine M_in (fun q => ?_) (fun q => h0 (fun j hj e => q ⟨by rw [e]; exact nI_pos' (by omega), ?_⟩))
  · obtain ⟨j, hj, e⟩ := nI_of (x := x) (Int32.not_lt.mpr q.1)
    have h2 := q.2
    rw [Int32.le_iff_toInt_le, e1, e, nI_toInt hj] at h2
    exact h1 j (by omega) e
  · rw [Int32.le_iff_toInt_le, e1, e, nI_toInt (by omega)]
    omega
theorem M_isUnit {po : Int32 → wF → wA → wB → Prop} {x : Int32} {n : Nat} {f : wF} {a : wA} {b : wB} (hf : f 1 = nI n) (hn : n ≤ 12) (h1 : ∀ j, j < n → x = nI j → po 1 f a b) (h0 : (∀ j, j < n → x ≠ nI j) → po 0 f a b) : wp_M_isUnit po x f a b :=
  M_isBelow hf (by omega) (fun j hj e => ⟨zb1, h1 j hj e⟩) (fun q => ⟨zb0, h0 q⟩)
theorem M_isIncident {po : Int32 → wF → wA → wB → Prop} {x : Int32} {n : Nat} {f : wF} {a : wA} {b : wB} (hf : f 2 = nI n) (hn : n ≤ 6) (h1 : ∀ j, j < n → x = nI j → po 1 f a b) (h0 : (∀ j, j < n → x ≠ nI j) → po 0 f a b) : wp_M_isIncident po x f a b :=
  M_isBelow hf (by omega) (fun j hj e => ⟨zb1, h1 j hj e⟩) (fun q => ⟨zb0, h0 q⟩)
/-- 'in(x, 0, 15)' -/
theorem M_isSkill {po : Int32 → wF → wA → wB → Prop} {x : Int32} {f : wF} {a : wA} {b : wB} (h1 : ∀ j, j < 16 → x = nI j → po 1 f a b) (h0 : (∀ j, j < 16 → x ≠ nI j) → po 0 f a b) : wp_M_in po x (0 : Int32) (15 : Int32) f a b :=
  M_isBelow (n := 16) (y := 16) rfl (by omega) h1 h0
theorem sOK_of {x : Int32} (h : -1 ≤ x ∧ x ≤ 99999) : sOK x := by
  by_cases e : x = -1
  · exact Or.inl e
  · right
    have h1 := h.1
    have h2 := h.2
    rw [Int32.le_iff_toInt_le] at h1 h2
    have e1 : (-1 : Int32).toInt = -1 := by decide
    have e2 : (99999 : Int32).toInt = 99999 := by decide
    have e3 : x.toInt ≠ -1 := fun q => e (Int32.toInt_inj.mp (by rw [q, e1]))
    obtain ⟨j, hj, e4⟩ := nI_of (x := x) (by rw [Int32.lt_iff_toInt_lt]; have : (0 : Int32).toInt = 0 := by decide
                                             omega)
    refine ⟨j, ?_, e4⟩
    rw [e4, nI_toInt hj] at h2
    omega
theorem rank_of {x : Int32} (h : 1 ≤ x ∧ x ≤ 9) : ∃ r, 1 ≤ r ∧ r ≤ 9 ∧ x = nI r := by
  have h1 := h.1
  have h2 := h.2
  rw [Int32.le_iff_toInt_le] at h1 h2
  have e1 : (1 : Int32).toInt = 1 := by decide
  have e2 : (9 : Int32).toInt = 9 := by decide
  obtain ⟨j, hj, e4⟩ := nI_of (x := x) (by rw [Int32.lt_iff_toInt_lt]; have : (0 : Int32).toInt = 0 := by decide
                                           omega)
  rw [e4, nI_toInt hj] at h1 h2
  exact ⟨j, by omega, by omega, e4⟩
/-! seconds -/
theorem okc_limit_Inv : okc_limit Inv := by
  intro x1 x2 fS aS bS fM aM bM hI
  have hI0 := hI
  obtain ⟨U, IC, NC, rs, rr, h1, h2, h3, h4, h5, h6, h7, h8, h9⟩ := hI
  have bad : ∀ (c : Int32) (f3 : wF), (∀ k, k ≠ 0 → f3 k = fM k) → f3 0 = c → ∀ k : Int32, k = c → f3 0 = k ∧ Inv fS aS (mgB bS bS) f3 aM bM := fun c f3 e1 e2 k e3 => ⟨by rw [e2, e3], hI0.out (fun j hj => mg_ne hj) e1⟩
  refine S_checkSkill (fun q => Or.inl ⟨rfl, ?_⟩) (fun j hj e => ?_)
  · refine M_isSkill (fun j hj e => absurd e (q j hj)) (fun _ => ⟨fun c => absurd rfl c, fun _ => ?_⟩)
    refine M_in (fun _ => ⟨fun _ => M_thr (fun c => absurd c (by decide)) (fun _ => ⟨fun c => absurd c (by decide), fun _ => ?_⟩), fun c => absurd c (by decide)⟩) (fun _ => ⟨fun c => absurd rfl c, fun _ => M_thr (fun c => absurd c (by decide)) (fun _ => ⟨fun c => absurd c (by decide), fun _ => ?_⟩)⟩)
    · exact bad _ _ (fun k hk => va_up_ne _ _ hk) (va_up_self _ _ _) _ rfl
    · exact bad _ _ (fun k hk => va_up_ne _ _ hk) (va_up_self _ _ _) _ rfl
  · subst e
    refine S_checkSeconds (fun q => Or.inr ⟨rfl, ?_⟩) (fun q => ?_)
    · refine M_isSkill (fun i hi e => ⟨fun _ => ?_, fun c => absurd c (by decide)⟩) (fun z => absurd rfl (z j hj))
      refine M_in (fun z => absurd z q) (fun _ => ⟨fun c => absurd rfl c, fun _ => M_thr (fun c => absurd c (by decide)) (fun _ => ⟨fun c => absurd c (by decide), fun _ => ?_⟩)⟩)
      exact bad _ _ (fun k hk => va_up_ne _ _ hk) (va_up_self _ _ _) _ rfl
    · refine ⟨vp_in_nI hj (by omega), M_isSkill (fun i hi e => ⟨fun _ => ?_, fun c => absurd c (by decide)⟩) (fun z => absurd rfl (z j hj))⟩
      refine M_in (fun _ => ⟨fun _ => M_thr (fun _ => ⟨fun _ => ⟨vp_in_nI hj (by omega), ?_⟩, fun c => absurd rfl c⟩) (fun c => absurd (show thr 0 0 0 0 = 0 by decide) c), fun c => absurd c (by decide)⟩) (fun z => absurd q z)
      refine ⟨va_up_self _ _ _, U, IC, NC, rs, rr, h1.c (fun _ _ => rfl) (fun k hk _ => va_up_ne _ _ (by omega)), h2.c (va_up_ne _ _ (by decide)) (va_up_ne _ _ (by decide)), h3.c (va_up_ne _ _ (by decide)) (va_up_ne _ _ (by decide)), h4.c (fun u hu => va_up_ne _ _ (by omega)) (va_up_ne _ _ (by decide)), h5.c (va_up_ne _ _ (by decide)) (va_up_ne _ _ (by decide)) (va_up_ne _ _ (by decide)) (va_up_ne _ _ (by decide)), h6.c (va_up_ne _ _ (by decide)) (va_up_ne _ _ (by decide)) (va_up_ne _ _ (by decide)) (va_up_ne _ _ (by decide)), h7.c (va_up_ne _ _ (by decide)) (va_up_ne _ _ (by decide)) (va_up_ne _ _ (by decide)) (va_up_ne _ _ (by decide)) (va_up_ne _ _ (by decide)) (va_up_ne _ _ (by decide)) (va_up_ne _ _ (by decide)) (va_up_ne _ _ (by decide)), ?_, h9.c (fun i hi => mg_ne hi)⟩
      intro k hk
      rw [va_up_self, va_up_self, nI_clamp (by omega)]
      by_cases e1 : k = j
      · subst e1
        rw [pk_us, pk_us]
        exact ⟨rfl, sOK_of q⟩
      · rw [pk_un e1, pk_un e1]
        exact h8 k hk
