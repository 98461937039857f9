/-! never -/
def hpl (a : wA) (U n : Nat) : Prop := ¬ vOp a n = 0 ∧ ∀ u, u < U → ¬ vCan a u n
noncomputable def hcn (a : wA) (U : Nat) : Nat → Nat
  | 0 => 0
  | k + 1 => cif (hpl a U k) (hcn a U k + 1) (hcn a U k)
/-- the need from k on that is asked for -/
noncomputable def nev (a : wA) (U : Nat) (x : Int32) : Nat → Nat → Int32
  | 0, _ => -1
  | m + 1, k => cif (hpl a U k ∧ nI (hcn a U k) = x) (nI k) (nev a U x m (k + 1))
theorem hcn_le (a : wA) (U : Nat) : ∀ k, hcn a U k ≤ k
  | 0 => Nat.le_refl 0
  | k + 1 => by
    have := hcn_le a U k
    show cif (hpl a U k) (hcn a U k + 1) (hcn a U k) ≤ k + 1
    by_cases h : hpl a U k
    · rw [cif_p h]; omega
    · rw [cif_n h]; omega
theorem S_anyCanFill {po : Int32 → wF → wA → wB → Prop} {n U : Nat} {f : wF} {a : wA} {b : wB} (hf : f 0 = nI U) (hU : U ≤ 12) (hn : vNd a n) (h1 : (∃ u, u < U ∧ vCan a u n) → po 1 f a b) (h0 : (∀ u, u < U → ¬ vCan a u n) → po 0 f a b) : wp_S_anyCanFill po (nI n) f a b := by
  refine pk_loop (σ := Unit) (fun m k _ => wp_S_anyCanFill_2 po m (nI n) (nI k) f a b) (fun k _ => ∀ u, u < k → ¬ vCan a u n) U 0 () (by omega) (fun u hu => absurd hu (Nat.not_lt_zero u)) ?_ ?_
  · intro m _ q
    exact pk_le U U (fun _ => ⟨zb0, h0 q⟩) (fun y => absurd y (by omega)) hf
  · intro m k _ hk q ih
    refine pk_le U k (fun y => absurd y (by omega)) (fun _ => ?_) hf
    refine S_canFill (by omega) hn (fun hc => iN n10 ⟨zb1, h1 ⟨k, hk, hc⟩⟩) (fun hc => ip rfl ?_)
    rw [nI_1]
    refine ih () (fun u hu => ?_)
    by_cases e : u = k
    · rw [e]; exact hc
    · exact q u (by omega)
theorem S_never {po : Int32 → wF → wA → wB → Prop} {px : String → wF → wA → wB → Prop} {x : Int32} {fS fM : wF} {aS aM : wA} {b : wB} {U IC NC rs rr : Nat} (hs : Sta fS aS fM aM U IC NC rs rr) : ∀ (m k : Nat), k + m = NC → po (nev aS U x m k) fS aS b → wp_S_never_18 po px (m + 1) x (nI (hcn aS U k)) (nI k) fS aS b
  | 0, k, hk, hp => pk_le NC k (fun _ => hp) (fun y => absurd y (by omega)) hs.1.2.2.1.1 (by rfl) (by have := hs.1.2.2.1.2.2; omega) (by have := hs.1.2.2.1.2.2; omega)
  | m + 1, k, hk, hp => by
    obtain ⟨⟨k11, k12, k13⟩, -, ⟨k31, k32, k33⟩, -⟩ := id hs.1
    refine pk_le NC k (fun y => absurd y (by omega)) (fun _ => ?_) k31
    have hlt : k < NC := by omega
    have g1 := (hs.nd hlt).1
    have hno : ∀ {c : Nat}, ¬ (hpl aS U k ∧ nI (hcn aS U k) = x) → hcn aS U (k + 1) = c → wp_S_never_18 po px (m + 1) x (nI c) (nI k + 1) fS aS b := fun {c} q e => by
      have ih := S_never (po := po) (px := px) (x := x) (b := b) hs m (k + 1) (by omega) (by
        have hp' : po (cif (hpl aS U k ∧ nI (hcn aS U k) = x) (nI k) (nev aS U x m (k + 1))) fS aS b := hp
        rw [cif_n q] at hp'
        exact hp')
      rw [nI_1, ← e]
      exact ih
    refine S_isOpenNeed g1 (hs.op2 hlt) ⟨fun ho => hno (fun q => q.1.1 ho) (cif_n (fun q => q.1 ho)), fun ho => S_anyCanFill k11 k13 g1 (fun hc => iN' n10 (hno (fun q => ?_) (cif_n (fun q => ?_)))) (fun hc => ip' rfl ⟨fun c => ?_, fun c => ?_⟩)⟩
    · obtain ⟨u, u1, u2⟩ := hc; exact q.1.2 u u1 u2
    · obtain ⟨u, u1, u2⟩ := hc; exact q.2 u u1 u2
    · rw [nI_1]
      exact hno (fun q => c q.2) (cif_p ⟨ho, hc⟩)
    · have hp' : po (cif (hpl aS U k ∧ nI (hcn aS U k) = x) (nI k) (nev aS U x m (k + 1))) fS aS b := hp
      rw [cif_p ⟨⟨ho, hc⟩, c⟩] at hp'
      exact hp'
theorem M_never51 {po : Int32 → wF → wA → wB → Prop} {J : Int32 → Int32 → wF → wA → wB → Prop} {x2 : Int32} {fS fM : wF} {aS aM : wA} {b : wB} {U IC NC rs rr n : Nat} (hs : Sta fS aS fM aM U IC NC rs rr) (hn : n < NC) (h1 : ¬ hpl aS U n → J x2 (nI n + 1) fM aM b) (h0 : hpl aS U n → x2 = 0 → po (nI n) fM aM b) (h2 : hpl aS U n → ¬ x2 = 0 → J (x2 - 1) (nI n + 1) fM aM b) {k0 : Int32} (hk0 : (k0 = 1 ∧ vOp aS n = 0) ∨ (k0 = 0 ∧ ¬ vOp aS n = 0)) : wp_M_never_46 po J k0 x2 (nI n) fM aM b := by
  obtain ⟨⟨k11, k12, k13⟩, -⟩ := id hs.1
  refine pk_loop (σ := Int32) (fun m k s => wp_M_never_51 po J m x2 (nI n) s (nI k) fM aM b) (fun k s => (s = 1 ∧ (vOp aS n = 0 ∨ ∃ u, u < k ∧ vCan aS u n)) ∨ (s = 0 ∧ ¬ vOp aS n = 0 ∧ ∀ u, u < k → ¬ vCan aS u n)) U 0 k0 (by omega) ?_ ?_ ?_
  · rcases hk0 with q | q
    · exact Or.inl ⟨q.1, Or.inl q.2⟩
    · exact Or.inr ⟨q.1, q.2, fun u hu => absurd hu (Nat.not_lt_zero u)⟩
  · intro m s q
    refine pk_le U U (fun _ => ?_) (fun y => absurd y (by omega)) k12
    rcases q with ⟨e, q⟩ | ⟨e, q1, q2⟩
    · rw [e]
      refine iN' n10 (iN n10 ?_)
      have : ¬ hpl aS U n := fun z => by
        rcases q with q | ⟨u, u1, u2⟩
        · exact z.1 q
        · exact z.2 u u1 u2
      show J (x2 - 0) (nI n + 1) fM aM b
      rw [Int32.sub_zero]
      exact h1 this
    · rw [e]
      exact ip' rfl ⟨fun c => ip rfl (h2 ⟨q1, q2⟩ c), fun c => h0 ⟨q1, q2⟩ c⟩
  · intro m k s hk q ih
    refine pk_le U k (fun y => absurd y (by omega)) (fun _ => ?_) k12
    rcases q with ⟨e, q⟩ | ⟨e, q1, q2⟩
    · rw [e]
      refine iN' n10 ?_
      show wp_M_never_51 po J m x2 (nI n) 1 (nI k + 1) fM aM b
      rw [nI_1]
      refine ih 1 (Or.inl ⟨rfl, ?_⟩)
      rcases q with q | ⟨u, u1, u2⟩
      · exact Or.inl q
      · exact Or.inr ⟨u, by omega, u2⟩
    · rw [e]
      refine ip' rfl (M_canFill hs hk hn (fun hc => iN n10 ?_) (fun hc => ip rfl ?_))
      · show wp_M_never_51 po J m x2 (nI n) 1 (nI k + 1) fM aM b
        rw [nI_1]
        exact ih 1 (Or.inl ⟨rfl, Or.inr ⟨k, by omega, hc⟩⟩)
      · show wp_M_never_51 po J m x2 (nI n) 0 (nI k + 1) fM aM b
        rw [nI_1]
        refine ih 0 (Or.inr ⟨rfl, q1, fun u hu => ?_⟩)
        by_cases e2 : u = k
        · rw [e2]; exact hc
        · exact q2 u (by omega)
theorem sub0 {x c : Int32} : x - c = 0 ↔ c = x := by
  constructor
  · intro h
    have := Int32.sub_add_cancel x c
    rw [h, Int32.zero_add] at this
    exact this
  · intro h
    rw [h, Int32.sub_self]
theorem sub1 {x : Int32} {c : Nat} : x - nI c - 1 = x - nI (c + 1) := by rw [← nI_1, Int32.sub_sub]
theorem M_never {po : Int32 → wF → wA → wB → Prop} {x : Int32} {fS fM : wF} {aS aM : wA} {b : wB} {U IC NC rs rr : Nat} (hs : Sta fS aS fM aM U IC NC rs rr) : ∀ (m k : Nat), k + m = NC → po (nev aS U x m k) fM aM b → wp_M_never_25 po (m + 1) (x - nI (hcn aS U k)) (nI k) fM aM b
  | 0, k, hk, hp => pk_le NC k (fun _ => hp) (fun y => absurd y (by omega)) hs.1.2.2.1.2.1 (by rfl) (by have := hs.1.2.2.1.2.2; omega) (by have := hs.1.2.2.1.2.2; omega)
  | m + 1, k, hk, hp => by
    obtain ⟨⟨k11, k12, k13⟩, -, ⟨k31, k32, k33⟩, -⟩ := id hs.1
    refine pk_le NC k (fun y => absurd y (by omega)) (fun _ => ?_) k32
    have hlt : k < NC := by omega
    have hp' : po (cif (hpl aS U k ∧ nI (hcn aS U k) = x) (nI k) (nev aS U x m (k + 1))) fM aM b := hp
    have hno : ∀ {c : Nat}, ¬ (hpl aS U k ∧ nI (hcn aS U k) = x) → hcn aS U (k + 1) = c → wp_M_never_25 po (m + 1) (x - nI c) (nI k + 1) fM aM b := fun {c} q e => by
      have ih := M_never (po := po) (x := x) (b := b) hs m (k + 1) (by omega) (by
        rw [cif_n q] at hp'
        exact hp')
      rw [nI_1, ← e]
      exact ih
    have h1 : ¬ hpl aS U k → wp_M_never_25 po (m + 1) (x - nI (hcn aS U k)) (nI k + 1) fM aM b := fun q => hno (fun z => q z.1) (cif_n q)
    have h0 : hpl aS U k → x - nI (hcn aS U k) = 0 → po (nI k) fM aM b := fun q z => by
      rw [cif_p ⟨q, sub0.mp z⟩] at hp'
      exact hp'
    have h2 : hpl aS U k → ¬ x - nI (hcn aS U k) = 0 → wp_M_never_25 po (m + 1) (x - nI (hcn aS U k) - 1) (nI k + 1) fM aM b := fun q z => by
      rw [sub1]
      exact hno (fun y => z (sub0.mpr y.2)) (cif_p q)
    exact M_isOpen hs hlt ⟨fun c => M_never51 hs hlt h1 h0 h2 (Or.inr ⟨rfl, c⟩), fun c => M_never51 hs hlt h1 h0 h2 (Or.inl ⟨rfl, c⟩)⟩
theorem okc_never_Inv : okc_never Inv := by
  intro x fS aS bS fM aM bM hI
  have hI0 := hI
  obtain ⟨U, IC, NC, rs, rr, hN⟩ := hI
  have hs := hN.sta
  have hs0 : Sta fS aS (va_up fM 0 0) aM U IC NC rs rr := hs.cf (fun _ _ => rfl) (fun k hk _ => va_up_ne _ _ (by omega))
  refine ⟨fun c => ⟨NC + 1, S_never (px := _) hs NC 0 (by omega) (ip c (thr0 (ip rfl ⟨NC + 1, ?_⟩)))⟩, fun c => ⟨rfl, iN c (thr1 (iN n10 (bad_out2 hI0 n10)))⟩⟩
  have := M_never (po := fun r f2 a2 b2 => wp_M_thrown (fun t f3 a3 b3 => t = 0 ∧ ((0 : Int32) = 0 → (va_up (mgB bS bS) 57 (vp_updL ((mgB bS bS) 57) (0 : Int32).toNatClampNeg (nev aS U x NC 0).toInt64)) 57 (0 : Int32).toNatClampNeg = r.toInt64) ∧ Inv fS aS (va_up (mgB bS bS) 57 (vp_updL ((mgB bS bS) 57) (0 : Int32).toNatClampNeg (nev aS U x NC 0).toInt64)) f3 a3 b3) f2 a2 b2) (x := x) (b := bM) hs0 NC 0 (by omega) hI0.ok
  rw [show x - nI (hcn aS U 0) = x from Int32.sub_zero x] at this
  exact this
