/-! what the constructors leave -/
theorem uTie : ∀ u, u < 12 → (nI u - (12 : Int32)).toInt64 = Int64.ofInt ((u : Int) - 12) := by decide
theorem P_init {po : wF → wA → wB → Prop} {f : wF} {a : wA} (hp : ∀ b : wB, (∀ r u, r < 10 → u < 12 → b (14 + r) u = Int64.ofInt (tieI r u)) → po f a b) : ∀ (m : Nat) (b : wB), m ≤ 10 → (∀ r u, m ≤ r → r < 10 → u < 12 → b (14 + r) u = Int64.ofInt (tieI r u)) → wp_P_init_113 po (m + 1) (Int64.ofInt (13 ^ (10 - m))) (nI m + (-1)) f a b
  | 0, b, _, hb => ip (by decide) (hp b (fun r u hr hu => hb r u (by omega) hr hu))
  | m + 1, b, hm, hb => by
    rw [pk_m1]
    refine iN (nI_pos (by omega)) ?_
    refine pk_loop (σ := wB) (fun i k s => wp_P_init_120 po (wp_P_init_113 po (m + 1)) i (Int64.ofInt (13 ^ (10 - (m + 1)))) (nI m) (nI k) f a s) (fun k s => (∀ r u, m + 1 ≤ r → r < 10 → u < 12 → s (14 + r) u = Int64.ofInt (tieI r u)) ∧ ∀ u, u < k → s (14 + m) u = Int64.ofInt (tieI m u)) 12 0 b (by omega) ⟨hb, fun u hu => absurd hu (Nat.not_lt_zero u)⟩ ?_ ?_
    · intro i s ⟨q1, q2⟩
      refine ip (by decide) ?_
      have ih := P_init hp m s (by omega) (fun r u h1 h2 h3 => by
        by_cases e : r = m
        · rw [e]; exact q2 u h3
        · exact q1 r u (by omega) h2 h3)
      have e : Int64.ofInt (13 ^ (10 - (m + 1))) * 13 = Int64.ofInt (13 ^ (10 - m)) := by
        rw [show (13 : Int64) = Int64.ofInt 13 by decide, ← Int64.ofInt_mul, show 10 - m = (10 - (m + 1)) + 1 by omega, Int.pow_succ]
      rw [e]
      exact ih
    · intro i k s hk ⟨q1, q2⟩ ih
      refine pk_le 12 k (fun y => absurd y (by omega)) (fun _ => ⟨vp_in_nI (by omega) (by decide), vp_in_nI hk (by decide), ?_⟩)
      rw [nI_1, nI_clamp (by omega), nI_clamp (by omega), uTie k hk, ← Int64.ofInt_mul]
      refine ih _ ⟨fun r u h1 h2 h3 => ?_, fun u hu => ?_⟩
      · rw [va_up_ne _ _ (by omega)]; exact q1 r u h1 h2 h3
      · rw [va_up_self]
        by_cases e : u = k
        · subst e
          rw [pk_uLs]
          show Int64.ofInt (((u : Int) - 12) * 13 ^ (10 - (m + 1))) = Int64.ofInt (((u : Int) - 12) * 13 ^ (9 - m))
          rw [show 10 - (m + 1) = 9 - m by omega]
        · rw [pk_uLn e]; exact q2 u (by omega)
def endS (f : wF) (a : wA) (b : wB) (f' : wF) (a' : wA) (b' : wB) : Prop := f' = f ∧ b' = b ∧ a' 4 = (fun _ => -1) ∧ a' 22 = (fun _ => -1) ∧ a' 23 = (fun _ => -1) ∧ (∀ u, u < 12 → a' (6 + u) = fun _ => -1) ∧ ∀ j, j ≠ 4 → j ≠ 22 → j ≠ 23 → (∀ u, u < 12 → j ≠ 6 + u) → a' j = a j
theorem S_init {f : wF} {a : wA} {b : wB} : wp_S_init (endS f a b) f a b := by
  refine pk_loop (σ := wA) (fun m k s => wp_S_init_144 (endS f a b) m (nI k) f s b) (fun k s => s 4 = (fun _ => -1) ∧ s 22 = (fun _ => -1) ∧ s 23 = (fun _ => -1) ∧ (∀ u, u < k → s (6 + u) = fun _ => -1) ∧ ∀ j, j ≠ 4 → j ≠ 22 → j ≠ 23 → (∀ u, u < 12 → j ≠ 6 + u) → s j = a j) 12 0 _ (by omega) ⟨rfl, rfl, rfl, fun u hu => absurd hu (Nat.not_lt_zero u), fun j h1 h2 h3 _ => by rw [va_up_ne _ _ h3, va_up_ne _ _ h2, va_up_ne _ _ h1]⟩ ?_ ?_
  · intro m s ⟨q1, q2, q3, q4, q5⟩
    exact ip (by decide) ⟨rfl, rfl, q1, q2, q3, q4, q5⟩
  · intro m k s hk ⟨q1, q2, q3, q4, q5⟩ ih
    refine pk_le 12 k (fun y => absurd y (by omega)) (fun _ => ⟨vp_in_nI hk (by decide), ?_⟩)
    rw [nI_1, nI_clamp (by omega)]
    refine ih _ ⟨?_, ?_, ?_, fun u hu => ?_, fun j h1 h2 h3 h4 => ?_⟩
    · rw [va_up_ne _ _ (by omega)]; exact q1
    · rw [va_up_ne _ _ (by omega)]; exact q2
    · rw [va_up_ne _ _ (by omega)]; exact q3
    · by_cases e : u = k
      · rw [e, va_up_self]
      · rw [va_up_ne _ _ (by omega)]; exact q4 u (by omega)
    · rw [va_up_ne _ _ (h4 k hk)]; exact q5 j h1 h2 h3 h4
def endM (f : wF) (a : wA) (b : wB) (f' : wF) (a' : wA) (b' : wB) : Prop := f' = f ∧ (∀ k, k < 72 → a' 3 k = -1) ∧ (∀ k, k < 16 → a' 10 k = -1) ∧ ∀ j, j ≠ 3 → j ≠ 10 → a' j = a j
theorem M_init {f : wF} {a : wA} {b : wB} : wp_M_init (endM f a b) f a b := by
  refine pk_loop (σ := wA) (fun m k s => wp_M_init_108 (endM f a b) m (nI k) f s b) (fun k s => (∀ i, i < k → s 3 i = -1) ∧ ∀ j, j ≠ 3 → s j = a j) 72 0 a (by omega) ⟨fun i hi => absurd hi (Nat.not_lt_zero i), fun _ _ => rfl⟩ ?_ ?_
  · intro m s ⟨q1, q2⟩
    refine ip (by decide) ?_
    refine pk_loop (σ := wA) (fun m k s => wp_M_init_129 (endM f a b) m (nI k) f s b) (fun k s => (∀ i, i < 72 → s 3 i = -1) ∧ (∀ i, i < k → s 10 i = -1) ∧ ∀ j, j ≠ 3 → j ≠ 10 → s j = a j) 16 0 s (by omega) ⟨q1, fun i hi => absurd hi (Nat.not_lt_zero i), fun j h1 _ => q2 j h1⟩ ?_ ?_
    · intro m2 t ⟨t1, t2, t3⟩
      exact ip (by decide) ⟨rfl, t1, t2, t3⟩
    · intro m2 k t hk ⟨t1, t2, t3⟩ ih
      refine pk_le 16 k (fun y => absurd y (by omega)) (fun _ => ⟨vp_in_nI hk (by decide), ?_⟩)
      rw [nI_1, nI_clamp (by omega)]
      refine ih _ ⟨fun i hi => ?_, fun i hi => ?_, fun j h1 h2 => ?_⟩
      · rw [va_up_ne _ _ (by decide)]; exact t1 i hi
      · rw [va_up_self]
        by_cases e : i = k
        · subst e; exact pk_us
        · rw [pk_un e]; exact t2 i (by omega)
      · rw [va_up_ne _ _ h2]; exact t3 j h1 h2
  · intro m k s hk ⟨q1, q2⟩ ih
    refine pk_le 72 k (fun y => absurd y (by omega)) (fun _ => ⟨vp_in_nI hk (by decide), ?_⟩)
    rw [nI_1, nI_clamp (by omega)]
    refine ih _ ⟨fun i hi => ?_, fun j h1 => ?_⟩
    · rw [va_up_self]
      by_cases e : i = k
      · subst e; exact pk_us
      · rw [pk_un e]; exact q1 i (by omega)
    · rw [va_up_ne _ _ h1]; exact q2 j h1
theorem okInit_Inv : okInit Inv := by
  refine ⟨fun _ _ b => ∀ r u, r < 10 → u < 12 → b (14 + r) u = Int64.ofInt (tieI r u), fun f a b => f 0 = 0 ∧ f 1 = 0 ∧ f 2 = 0 ∧ f 3 = 0 ∧ f 4 = 10 ∧ a 4 = (fun _ => -1) ∧ a 22 = (fun _ => -1) ∧ a 23 = (fun _ => -1) ∧ (∀ u, u < 12 → a (6 + u) = fun _ => -1) ∧ a 2 = (fun _ => 0) ∧ a 3 = (fun _ => 0) ∧ ∀ r u, r < 10 → u < 12 → b (38 + r) u = Int64.ofInt (tieI r u), endM (va_up (fun _ => 0) 5 10) (fun _ _ => 0) (fun _ _ => 0), ?_, ?_, M_init, ?_⟩
  · exact ⟨11, P_init (fun b h => h) 10 _ (by omega) (fun r u h1 h2 => by omega)⟩
  · intro fP aP bP hP
    obtain ⟨n, hn⟩ := S_init (f := fun j => if j < 5 then (va_up (va_up (fun _ => 0) 3 ((0 : Int32))) 4 ((10 : Int32))) j else fP (j - 5)) (a := fun j => if j < 24 then (fun _ => 0) else aP (j - 24)) (b := fun j => if j < 24 then (fun _ => 0) else bP (j - 24))
    have mono : ∀ {p q : wF → wA → wB → Prop}, (∀ f a b, p f a b → q f a b) → ∀ (n : Nat) (x : Int32) (f : wF) (a : wA) (b : wB), wp_S_init_144 p n x f a b → wp_S_init_144 q n x f a b := by
      intro p q h n
      induction n with
      | zero => exact fun _ _ _ _ z => z
      | succ n ih => exact fun x f a b z => ⟨fun c => h _ _ _ (z.1 c), fun c => ⟨(z.2 c).1, ih _ _ _ _ (z.2 c).2⟩⟩
    refine ⟨n, mono (fun f a b h => ?_) n _ _ _ _ hn⟩
    obtain ⟨e1, e2, q1, q2, q3, q4, q5⟩ := h
    subst e1 e2
    refine ⟨rfl, rfl, rfl, rfl, rfl, q1, q2, q3, q4, q5 2 (by decide) (by decide) (by decide) (fun u hu => by omega), q5 3 (by decide) (by decide) (by decide) (fun u hu => by omega), fun r u hr hu => ?_⟩
    show (if 38 + r < 24 then (fun _ => 0) else bP (38 + r - 24)) u = _
    rw [if_neg (by omega), show 38 + r - 24 = 14 + r by omega]
    exact hP r u hr hu
  · intro fS aS bS fM aM bM ⟨s0, s1, s2, s3, s4, s5, s6, s7, s8, s9, s10, s11⟩ ⟨m1, m2, m3, m4⟩
    subst m1
    refine ⟨0, 0, 0, 0, 10, ⟨⟨s0, rfl, by decide⟩, ⟨s1, rfl, by decide⟩, ⟨s2, rfl, by decide⟩, ⟨s3, rfl, by decide⟩, ⟨s4, rfl, by decide, by decide⟩⟩, fun u hu => absurd hu (Nat.not_lt_zero u), fun u hu => ?_, fun u i hu hi => ?_, fun i hi => ⟨fun h => absurd h (Nat.not_lt_zero i), fun _ => ?_⟩, fun n hn => absurd hn (Nat.not_lt_zero n), ⟨fun n hn => ⟨fun h => absurd h (Nat.not_lt_zero n), fun _ => by rw [s6]⟩, fun u hu => ⟨Or.inl (by rw [s10]), Or.inl ⟨by rw [s5], by rw [s10]⟩⟩⟩, fun k hk => ?_, fun r u hr hu => ?_⟩
    · rw [s9, m4 2 (by decide) (by decide)]; exact ⟨rfl, Or.inl rfl⟩
    · rw [s8 u hu, m2 _ (by omega)]; exact ⟨rfl, Or.inl rfl⟩
    · rw [m4 5 (by decide) (by decide)]
    · rw [s7, m3 k hk]; exact ⟨rfl, Or.inl rfl⟩
    · show (if 38 + r = 57 then (fun _ => 0) else bS (38 + r)) u = _
      rw [if_neg (by omega)]
      exact s11 r u hr hu
