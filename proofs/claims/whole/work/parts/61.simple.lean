/-! unit, incident, rank, seconds, limit, reserve -/
theorem va_up0 {α : Type} {f : Nat → α} {v : α} {k j : Nat} (h : j ≠ k) : va_up f k v j = f j := va_up_ne _ _ h
/-- an int against a range 0 .. n-1 -/
theorem rng {x : Int32} {n : Nat} (hn : n < 2 ^ 31) : (x < 0 ∧ ¬ (0 ≤ x ∧ x < nI n)) ∨ (¬ x < 0 ∧ nI n ≤ x ∧ ¬ x < nI n) ∨ ∃ j, j < n ∧ x = nI j ∧ ¬ nI j < 0 ∧ nI j < nI n := by
  rcases pk_ix x hn with h | h | ⟨j, hj, rfl⟩
  · left; exact ⟨h, fun q => absurd h (Int32.not_lt.mpr q.1)⟩
  · by_cases h0 : x < 0
    · left; exact ⟨h0, fun q => absurd h0 (Int32.not_lt.mpr q.1)⟩
    · right; left; exact ⟨h0, h, Int32.not_lt.mpr h⟩
  · right; right; exact ⟨j, hj, rfl, nI_pos (by omega), nI_lt hj hn⟩
theorem S_unit {po : Int32 → wF → wA → wB → Prop} {px : String → wF → wA → wB → Prop} {x : Int32} {f : wF} {a : wA} {b : wB} {U : Nat} (hf : f 0 = nI U) (hU : U ≤ 12) (h1 : ¬ (0 ≤ x ∧ x < 65536) → px "java/lang/IndexOutOfBoundsException" f a b) (h2 : 0 ≤ x ∧ x < 65536 → U = 12 → px "java/lang/UnsupportedOperationException" f a b) (h3 : 0 ≤ x ∧ x < 65536 → U < 12 → po (nI U) (va_up f 0 (nI (U + 1))) (va_up a 1 (upd (a 1) U x)) b) : wp_S_unit po px x f a b := by
  refine ⟨fun c => h1 (fun q => absurd c (Int32.not_lt.mpr q.1)), fun c => ⟨fun c2 => ?_, fun c2 => h1 (fun q => c2 q.2)⟩⟩
  have hr : 0 ≤ x ∧ x < 65536 := ⟨Int32.not_lt.mp c, c2⟩
  rw [va_up_self, hf]
  by_cases e : U = 12
  · subst e
    exact ⟨fun q => absurd q (by decide), fun _ => h2 hr rfl⟩
  · have hU2 : U < 12 := by omega
    refine ⟨fun _ => ⟨vp_in_nI hU2 (by decide), ?_⟩, fun q => absurd (show nI U < nI 12 from nI_lt hU2 (by decide)) q⟩
    have := h3 hr hU2
    rw [nI_1, nI_pred, nI_clamp (by omega)]
    exact this
theorem M_unit {po : Int32 → wF → wA → wB → Prop} {x : Int32} {f : wF} {a : wA} {b : wB} {U : Nat} (hf : f 1 = nI U) (hU : U ≤ 12) (h1 : ¬ (0 ≤ x ∧ x < 65536) → po 0 (va_up f 0 1) a b) (h2 : 0 ≤ x ∧ x < 65536 → U = 12 → po 0 (va_up f 0 2) a b) (h3 : 0 ≤ x ∧ x < 65536 → U < 12 → po (nI U) (va_up (va_up f 0 0) 1 (nI (U + 1))) (va_up a 1 (upd (a 1) U x)) b) : wp_M_unit po x f a b := by
  have hc : (0 ≤ x ∧ x ≤ 65535) ↔ (0 ≤ x ∧ x < 65536) := by
    constructor
    · intro q
      refine ⟨q.1, ?_⟩
      have := q.2
      rw [Int32.le_iff_toInt_le] at this
      rw [Int32.lt_iff_toInt_lt]
      have e1 : (65535 : Int32).toInt = 65535 := by decide
      have e2 : (65536 : Int32).toInt = 65536 := by decide
      omega
    · intro q
      refine ⟨q.1, ?_⟩
      have := q.2
      rw [Int32.lt_iff_toInt_lt] at this
      rw [Int32.le_iff_toInt_le]
      have e1 : (65535 : Int32).toInt = 65535 := by decide
      have e2 : (65536 : Int32).toInt = 65536 := by decide
      omega
  have e0 : ∀ v : Int32, (va_up f 0 v) 1 = nI U := fun v => (va_up_ne _ _ (by decide)).trans hf
  refine M_in (fun q => ?_) (fun q => ?_)
  · refine ⟨fun _ => ?_, fun c => absurd c (by decide)⟩
    by_cases e : U = 12
    · subst e
      refine ⟨fun c => absurd hf c, fun _ => M_thr (fun c => absurd c (by decide)) (fun _ => ⟨fun c => absurd c (by decide), fun _ => h2 (hc.mp q) rfl⟩)⟩
    · refine ⟨fun _ => M_thr (fun _ => ⟨fun _ => ?_, fun c => absurd rfl c⟩) (fun c => absurd (show thr 0 0 0 0 = 0 by decide) c), fun c => ?_⟩
      · rw [va_up_self, e0]
        refine ⟨vp_in_nI (by omega) (by decide), ?_⟩
        rw [nI_1, nI_pred, nI_clamp (by omega)]
        exact h3 (hc.mp q) (by omega)
      · rw [hf] at c
        exact absurd ((nI_eq (by omega) (by decide)).mp (show nI U = nI 12 from c)) e
  · refine ⟨fun c => absurd rfl c, fun _ => ?_⟩
    have hn : ¬ (0 ≤ x ∧ x < 65536) := fun z => q (hc.mpr z)
    refine ⟨fun _ => M_thr (fun c => absurd c (by decide)) (fun _ => ⟨fun c => absurd c (by decide), fun _ => h1 hn⟩), fun _ => M_thr (fun c => absurd c (by decide)) (fun _ => ⟨fun c => absurd c (by decide), fun _ => h1 hn⟩)⟩
theorem okc_unit_Inv : okc_unit Inv := by
  intro x fS aS bS fM aM bM hI
  have hI0 := hI
  obtain ⟨U, IC, NC, rs, rr, ⟨⟨a1, a2, a3⟩, ⟨a4, a5, a6⟩, ⟨a7, a8, a9⟩, ⟨a10, a11, a12⟩, ⟨a13, a14, a15⟩⟩, h2, h3, h4, h5, h6, h7, h8, h9⟩ := hI
  refine S_unit (U := U) a1 a3 (fun q => ?_) (fun q e => ?_) (fun q e => ?_)
  · refine Or.inl ⟨rfl, M_unit (U := U) a2 a3 (fun _ => ?_) (fun z => absurd z q) (fun z => absurd z q)⟩
    exact ⟨va_up_self _ _ _, fun c => absurd c (by decide), hI0.out (fun j hj => mg_ne hj) (fun k hk => va_up_ne _ _ hk)⟩
  · refine Or.inr ⟨rfl, M_unit (U := U) a2 a3 (fun z => absurd q z) (fun _ _ => ?_) (fun _ z => by omega)⟩
    exact ⟨va_up_self _ _ _, fun c => absurd c (by decide), hI0.out (fun j hj => mg_ne hj) (fun k hk => va_up_ne _ _ hk)⟩
  · refine M_unit (U := U) a2 a3 (fun z => absurd q z) (fun _ z => by omega) (fun _ _ => ?_)
    refine ⟨(va_up_ne _ _ (by decide)).trans (va_up_self _ _ _), fun _ => out_get, ?_⟩
    obtain ⟨k, hk, rfl⟩ : ∃ k, k < 65536 ∧ x = nI k := by
      rcases rng (x := x) (n := 65536) (by decide) with ⟨z, -⟩ | ⟨-, -, z⟩ | ⟨j, hj, e1, -⟩
      · exact absurd z (Int32.not_lt.mpr q.1)
      · exact absurd q.2 z
      · exact ⟨j, hj, e1⟩
    have na : ∀ (g : Nat → Int32) (j : Nat), j ≠ 1 → va_up aS 1 g j = aS j := fun g j hj => va_up_ne _ _ hj
    have nm : ∀ (g : Nat → Int32) (j : Nat), j ≠ 1 → va_up aM 1 g j = aM j := fun g j hj => va_up_ne _ _ hj
    refine ⟨U + 1, IC, NC, rs, rr, ⟨⟨va_up_self _ _ _, va_up_self _ _ _, by omega⟩, ⟨?_, ?_, a6⟩, ⟨?_, ?_, a9⟩, ⟨?_, ?_, a12⟩, ⟨?_, ?_, a15⟩⟩, ?_, ?_, ?_, ?_, ?_, ?_, ?_, ?_⟩
    · exact (va_up_ne _ _ (by decide)).trans a4
    · exact (va_up_ne _ _ (by decide)).trans ((va_up_ne _ _ (by decide)).trans a5)
    · exact (va_up_ne _ _ (by decide)).trans a7
    · exact (va_up_ne _ _ (by decide)).trans ((va_up_ne _ _ (by decide)).trans a8)
    · exact (va_up_ne _ _ (by decide)).trans a10
    · exact (va_up_ne _ _ (by decide)).trans ((va_up_ne _ _ (by decide)).trans a11)
    · exact (va_up_ne _ _ (by decide)).trans a13
    · exact (va_up_ne _ _ (by decide)).trans ((va_up_ne _ _ (by decide)).trans a14)
    · intro u hu
      rw [va_up_self, va_up_self]
      by_cases e1 : u = U
      · subst e1
        exact ⟨k, hk, pk_us, pk_us⟩
      · rw [pk_un e1, pk_un e1]
        exact h2 u (by omega)
    · intro u hu
      rw [na _ 2 (by decide), nm _ 2 (by decide)]
      exact h3 u hu
    · intro u i hu hi
      rw [na _ (6 + u) (by omega), nm _ 3 (by decide)]
      exact h4 u i hu hi
    · intro i hi
      rw [na _ 18 (by decide), na _ 19 (by decide), nm _ 4 (by decide), nm _ 5 (by decide)]
      exact h5 i hi
    · intro n hn
      rw [na _ 20 (by decide), na _ 21 (by decide), nm _ 6 (by decide), nm _ 7 (by decide)]
      exact h6 n hn
    · unfold iFill
      rw [na _ 22 (by decide), na _ 4 (by decide), na _ 3 (by decide), na _ 2 (by decide), na _ 19 (by decide), na _ 20 (by decide), nm _ 8 (by decide), nm _ 9 (by decide)]
      refine ⟨fun n hn => ⟨fun h => ?_, (h7.1 n hn).2⟩, fun u hu => ⟨(h7.2 u hu).1, ?_⟩⟩
      · obtain ⟨g1, g2⟩ := (h7.1 n hn).1 h
        refine ⟨g1, ?_⟩
        rcases g2 with g2 | ⟨u, g2, g3⟩
        · exact Or.inl g2
        · exact Or.inr ⟨u, by omega, g3⟩
      · rcases (h7.2 u hu).2 with g2 | ⟨n, g2, g3, g4, g5, g6⟩
        · exact Or.inl g2
        · exact Or.inr ⟨n, g2, g3, g4, by omega, g6⟩
    · intro j hj
      rw [na _ 23 (by decide), nm _ 10 (by decide)]
      exact h8 j hj
    · intro r u hr hu
      rw [va_up_ne _ _ (by omega), mg_ne (by omega)]
      exact h9 r u hr hu
