/-! the reference: bits, counts, rows, fixed units -/
theorem smod_u : ∀ u, u < 12 → ((nI u &&& 31).toBitVec.smod 32).toNat = u := by decide
theorem bitI {t u : Nat} (ht : t < 4096) (hu : u < 12) : ((nI t >>> (nI u &&& 31)) &&& (1 : Int32)) = nI (t / 2 ^ u % 2) := by
  rw [pk_shrN (by omega) _ u (smod_u u hu), pk_andN (m := 1) (by have : t / 2 ^ u ≤ t := Nat.div_le_self _ _; omega) 1 (by decide)]
theorem orI {t s : Nat} : nI t ||| nI s = nI (t ||| s) := by
  have : (nI t ||| nI s).toBitVec = (nI (t ||| s)).toBitVec := by
    rw [Int32.toBitVec_or]
    show BitVec.ofNat 32 t ||| BitVec.ofNat 32 s = BitVec.ofNat 32 (t ||| s)
    rw [BitVec.ofNat_or]
  exact Int32.toBitVec_inj.mp this
theorem shl_u : ∀ u, u < 12 → ((1 : Int32) <<< (nI u &&& 31)) = nI (2 ^ u) := by decide
def tb (t u : Nat) : Prop := t.testBit u = true
theorem tb_iff {t u : Nat} : tb t u ↔ t / 2 ^ u % 2 = 1 := by
  unfold tb
  rw [Nat.testBit_eq_decide_div_mod_eq]
  exact decide_eq_true_iff
theorem tb_or {t u v : Nat} : tb (t ||| 2 ^ u) v ↔ tb t v ∨ u = v := by
  unfold tb
  rw [Nat.testBit_or, Nat.testBit_two_pow, Bool.or_eq_true, decide_eq_true_iff]
theorem or_lt {t u : Nat} (ht : t < 4096) (hu : u < 12) : t ||| 2 ^ u < 4096 := Nat.or_lt_two_pow (n := 12) ht (Nat.pow_lt_pow_right (by decide) hu)
theorem bit1 {t u : Nat} (ht : t < 4096) (hu : u < 12) : ((nI t >>> (nI u &&& 31)) &&& (1 : Int32)) = 1 ↔ tb t u := by
  rw [bitI ht hu, tb_iff]
  have : t / 2 ^ u % 2 < 2 := Nat.mod_lt _ (by decide)
  exact nI_eq (b := 1) (by omega) (by decide)
noncomputable def onc (t : Nat) : Nat := ucn (tb t) 12
theorem M_ones {po : Int32 → wF → wA → wB → Prop} {t : Nat} {f : wF} {a : wA} {b : wB} (ht : t < 4096) (h : po (nI (onc t)) f a b) : wp_M_ones po (nI t) f a b := by
  refine pk_loop (σ := Int32) (fun m k s => wp_M_ones_4 po m (nI t) s (nI k) f a b) (fun k s => s = nI (ucn (tb t) k)) 12 0 0 (by omega) rfl ?_ ?_
  · intro m s e
    exact ip (by decide) (by rw [e]; exact h)
  · intro m k s hk e ih
    refine pk_le 12 k (fun y => absurd y (by omega)) (fun _ => ?_)
    rw [nI_1, bitI ht hk]
    refine ih _ ?_
    rw [e, nI_add]
    have hm : t / 2 ^ k % 2 < 2 := Nat.mod_lt _ (by decide)
    by_cases hb : tb t k
    · rw [ucn_y hb, tb_iff.mp hb]
    · have : t / 2 ^ k % 2 = 0 := by
        have : t / 2 ^ k % 2 ≠ 1 := fun z => hb (tb_iff.mpr z)
        omega
      rw [ucn_n hb, this, Nat.add_zero]
noncomputable def mst (a : wA) (U rs : Nat) : Int := (ucn (fun u => a 2 u = 0) U : Int) - rs
def mayP (a : wA) (U rs rr n u t : Nat) : Prop := ¬ tb t u ∧ vCan a u n ∧ (¬ vRk a n < nI rr ∨ (onc t : Int) + 1 ≤ mst a U rs)
section MH
variable {fS fM : wF} {aS aM : wA} {bM : wB} {U IC NC rs rr : Nat}
theorem M_most {po : Int32 → wF → wA → wB → Prop} (h : Sta fS aS fM aM U IC NC rs rr) (hp : po (Int32.ofInt (mst aS U rs)) fM aM bM) : wp_M_most po fM aM bM := by
  have hU := h.1.1.2.2
  refine pk_loop (σ := Int32) (fun m k s => wp_M_most_8 po m s (nI k) fM aM bM) (fun k s => s = Int32.ofInt ((ucn (fun u => aS 2 u = 0) k : Int) - rs)) U 0 (-(fM 4)) (by omega) ?_ ?_ ?_
  · rw [h.1.2.2.2.1.2.1, nI_int, ← Int32.ofInt_neg]
    show _ = Int32.ofInt (((0 : Nat) : Int) - rs)
    rw [show (((0 : Nat) : Int) - rs) = -(rs : Int) by omega]
  · intro m s e
    exact pk_le U U (fun _ => by rw [e]; exact hp) (fun y => absurd y (by omega)) h.1.1.2.1
  · intro m k s hk e ih
    refine pk_le U k (fun y => absurd y (by omega)) (fun _ => ⟨vp_in_nI (by omega) (by decide), ?_⟩) h.1.1.2.1
    rw [nI_clamp (n := k) (by omega), (h.2.2.1 k (by omega)).1]
    refine ⟨fun c => ?_, fun c => ?_⟩
    · show wp_M_most_8 po m (s + 1) (nI k + 1) fM aM bM
      rw [nI_1]
      refine ih _ ?_
      rw [e, ucn_y (p := fun u => aS 2 u = 0) c, show (1 : Int32) = Int32.ofInt 1 by decide, ← Int32.ofInt_add]
      rw [show (ucn (fun u => aS 2 u = 0) k : Int) - rs + 1 = ((ucn (fun u => aS 2 u = 0) k + 1 : Nat) : Int) - rs by omega]
    · show wp_M_most_8 po m (s + 0) (nI k + 1) fM aM bM
      rw [nI_1]
      refine ih _ ?_
      rw [e, ucn_n (p := fun u => aS 2 u = 0) c, Int32.add_zero]
theorem M_may {po : Int32 → wF → wA → wB → Prop} {n u t : Nat} (h : Sta fS aS fM aM U IC NC rs rr) (hn : n < NC) (hu : u < U) (ht : t < 4096) (h1 : mayP aS U rs rr n u t → po 1 fM aM bM) (h0 : ¬ mayP aS U rs rr n u t → po 0 fM aM bM) : wp_M_may po (nI n) (nI u) (nI t) fM aM bM := by
  have hU := h.1.1.2.2
  have hrs := h.1.2.2.2.1.2.2
  unfold wp_M_may
  rw [bit1 ht (by omega)]
  refine ⟨fun c => ⟨zb0, h0 (fun z => z.1 c)⟩, fun c => M_canFill h hu hn (fun hc => iN' n10 (M_rankOf h hn ?_)) (fun hc => ip' rfl ⟨zb0, h0 (fun z => hc z.2.1)⟩)⟩
  rw [h.1.2.2.2.2.2.1]
  refine ⟨fun c2 => ⟨zb1, h1 ⟨c, hc, Or.inl (Int32.not_lt.mpr c2)⟩⟩, fun c2 => M_ones ht (M_most h ?_)⟩
  have ho : onc t ≤ 12 := ucn_le 12
  have hm1 := ucn_le (p := fun u => aS 2 u = 0) U
  have hm : (Int32.ofInt (mst aS U rs)).toInt = mst aS U rs := Int32.toInt_ofInt_of_le (by unfold mst; omega) (by unfold mst; omega)
  rw [nI_1, Int32.lt_iff_toInt_lt, hm, nI_toInt (by omega)]
  refine ⟨fun c3 => ⟨zb0, h0 (fun z => ?_)⟩, fun c3 => ⟨zb1, h1 ⟨c, hc, Or.inr (by omega)⟩⟩⟩
  rcases z.2.2 with y | y
  · exact c2 (Int32.not_lt.mp y)
  · omega
theorem M_isFixed {po : Int32 → wF → wA → wB → Prop} {n : Nat} (h : Sta fS aS fM aM U IC NC rs rr) (hf : iFill aS aM U NC) (hn : n < NC) (h1 : fixN aS n → po 1 fM aM bM) (h0 : ¬ fixN aS n → po 0 fM aM bM) : wp_M_isFixed po (nI n) fM aM bM := by
  have hU := h.1.1.2.2
  have hNC := h.1.2.2.1.2.2
  obtain ⟨g1, g2⟩ := (hf.1 n (by omega)).1 hn
  refine M_isOpen h hn ?_
  rw [nI_clamp (n := n) (by omega), g1]
  rcases g2 with ⟨g2, g3⟩ | ⟨u, u1, u2, u3, u4⟩
  · have hno : ¬ fixN aS n := fun z => z.1 g2
    refine ⟨fun c => ⟨zb0, h0 hno⟩, fun c => ⟨vp_in_nI (by omega) (by decide), ip (by rw [g2]; exact m1neg) ⟨zb0, h0 hno⟩⟩⟩
  · have hne : ¬ aS 22 n = -1 := by rw [u2]; exact m1ne (by omega)
    have hop : vOp aS n = 1 := by
      rcases hf.un hU hNC (u := u) (by omega) with z | ⟨m, m1, m2, m3, m4, m5, m6, m7, m8⟩
      · rw [u3] at z; exact absurd z.1 (m1ne (by omega))
      · have := ninj (by omega) (by omega) (u3.symm.trans m2)
        subst this; exact m8
    have hfu : fixN aS n ↔ ¬ aS 3 u = 0 ∧ vCan aS u n := by
      unfold fixN fixU
      rw [u2, nI_clamp (by omega), u3, nI_clamp (by omega)]
      exact ⟨fun z => ⟨z.2.1, z.2.2.2⟩, fun z => ⟨m1ne (by omega), z.1, m1ne (by omega), z.2⟩⟩
    refine iN (by rw [hop]; exact n10) ⟨vp_in_nI (by omega) (by decide), iN (by rw [u2]; exact nI_pos (by omega)) ⟨vp_in_nI (by omega) (by decide), ?_⟩⟩
    rw [u4, u2]
    refine ⟨fun c => ⟨zb0, h0 (fun z => (hfu.mp z).1 c)⟩, fun c => ⟨vp_in_nI (by omega) (by decide), M_canFill h u1 hn (fun hc => iN n10 ⟨zb1, h1 (hfu.mpr ⟨c, hc⟩)⟩) (fun hc => ip rfl ⟨zb0, h0 (fun z => hc (hfu.mp z).2)⟩)⟩⟩
theorem Sta.cm {fM' : wF} {aM' : wA} (h : Sta fS aS fM aM U IC NC rs rr) (hf : ∀ k, 1 ≤ k → k ≤ 5 → fM' k = fM k) (ha : ∀ j, j ≠ 8 → j ≠ 9 → j ≠ 11 → aM' j = aM j) : Sta fS aS fM' aM' U IC NC rs rr := by
  obtain ⟨h1, h2, h3, h4, h5, h6, h8⟩ := h
  exact ⟨h1.c (fun _ _ => rfl) hf, h2.c rfl (ha 1 (by decide) (by decide) (by decide)), h3.c rfl (ha 2 (by decide) (by decide) (by decide)), h4.c (fun _ _ => rfl) (ha 3 (by decide) (by decide) (by decide)), h5.c rfl rfl (ha 4 (by decide) (by decide) (by decide)) (ha 5 (by decide) (by decide) (by decide)), h6.c rfl rfl (ha 6 (by decide) (by decide) (by decide)) (ha 7 (by decide) (by decide) (by decide)), h8.c rfl (ha 10 (by decide) (by decide) (by decide))⟩
/-- the rows that the reference has gathered -/
def GA (fM : wF) (aM : wA) (L : List Nat) (f' : wF) (a' : wA) : Prop := f' 6 = nI L.length ∧ (∀ k, k ≠ 6 → f' k = fM k) ∧ (∀ j, j ≠ 11 → a' j = aM j) ∧ ∀ r, r < L.length → a' 11 r = nI (L.getD r 0)
theorem M_gath {po : wF → wA → wB → Prop} {J : Int32 → wF → wA → wB → Prop} {f' : wF} {a' : wA} {L0 : List Nat} {x : Int32} {p : Nat → Prop} (h : Sta fS aS fM aM U IC NC rs rr) (hf : iFill aS aM U NC) (hx : (x = 0 ∧ p = pk0 aS rr) ∨ (¬ x = 0 ∧ p = pk1 aS rr)) (hlen : ∀ k, k ≤ NC → (rl p k).length + L0.length ≤ 10) (hg : GA fM aM L0 f' a') (hp : ∀ f2 a2, GA fM aM (L0 ++ rl p NC) f2 a2 → J (x + 1) f2 a2 bM) : ∃ n9, wp_M_gather_14 po J n9 x (0 : Int32) f' a' bM := by
  have hNC := h.1.2.2.1.2.2
  refine pk_loop (σ := wF × wA) (fun m k s => wp_M_gather_14 po J m x (nI k) s.1 s.2 bM) (fun k s => GA fM aM (L0 ++ rl p k) s.1 s.2) NC 0 (f', a') (by omega) (by
    show GA fM aM (L0 ++ []) f' a'
    rw [List.append_nil]; exact hg) ?_ ?_
  · rintro m ⟨f1, a1⟩ q
    exact pk_le NC NC (fun _ => hp f1 a1 q) (fun y => absurd y (by omega)) ((q.2.1 3 (by decide)).trans h.1.2.2.1.2.1)
  · rintro m k ⟨f1, a1⟩ hk q ih
    have q' : GA fM aM (L0 ++ rl p k) f1 a1 := q
    have h1 : Sta fS aS f1 a1 U IC NC rs rr := h.cm (fun k _ hk5 => q'.2.1 k (by omega)) (fun j _ _ hj => q'.2.2.1 j hj)
    have hf1 : iFill aS a1 U NC := hf.c rfl rfl rfl rfl rfl rfl (q'.2.2.1 8 (by decide)) (q'.2.2.1 9 (by decide))
    refine pk_le NC k (fun y => absurd y (by omega)) (fun _ => ?_) h1.1.2.2.1.2.1
    have hno : ¬ p k → wp_M_gather_14 po J m x (nI k + 1) f1 a1 bM := fun hz => by
      rw [nI_1]
      refine ih (f1, a1) ?_
      rw [rl_n hz]; exact q'
    have hyes : p k → vp_in (f1 6) 10 ∧ wp_M_gather_14 po J m x (nI k + 1) (va_up f1 6 (f1 6 + 1)) (va_up a1 11 (upd (a1 11) (f1 6).toNatClampNeg (nI k))) bM := fun hz => by
      have hl := hlen (k + 1) (by omega)
      rw [rl_y hz] at hl
      simp only [List.length_append, List.length_singleton] at hl
      have hll : (L0 ++ rl p k).length < 10 := by simp only [List.length_append]; omega
      rw [q'.1, nI_1, nI_1, nI_clamp (by omega)]
      refine ⟨vp_in_nI hll (by decide), ih (va_up f1 6 (nI ((L0 ++ rl p k).length + 1)), va_up a1 11 (upd (a1 11) (L0 ++ rl p k).length (nI k))) ⟨?_, fun j hj => (va_up_ne _ _ hj).trans (q'.2.1 j hj), fun j hj => (va_up_ne _ _ hj).trans (q'.2.2.1 j hj), fun r hr => ?_⟩⟩
      · rw [rl_y hz, ← List.append_assoc]
        show va_up f1 6 (nI ((L0 ++ rl p k).length + 1)) 6 = nI ((L0 ++ rl p k) ++ [k]).length
        rw [va_up_self, List.length_append (bs := [k])]
        rfl
      · rw [rl_y hz, ← List.append_assoc] at hr ⊢
        show va_up a1 11 (upd (a1 11) (L0 ++ rl p k).length (nI k)) 11 r = _
        rw [va_up_self]
        by_cases e : r = (L0 ++ rl p k).length
        · subst e; rw [pk_us, getD_last]
        · have hr' : r < (L0 ++ rl p k).length := by
            simp only [List.length_append, List.length_singleton] at hr e ⊢
            omega
          rw [pk_un e, getD_app hr']; exact q'.2.2.2 r hr'
    refine M_rankOf h1 hk ?_
    have hgo : ∀ v : Int32, ((v = 1 ∧ ¬ vRk aS k < nI rr) ∨ (v = 0 ∧ vRk aS k < nI rr)) → wp_M_gather_39 po J (wp_M_gather_14 po J m) v x (nI k) f1 a1 bM := by
      intro v hv
      refine M_isOpen h1 hk ⟨fun c => hno (fun z => ?_), fun c => M_isFixed h1 hf1 hk (fun hc => iN' n10 (hno (fun z => ?_))) (fun hc => ip' rfl ?_)⟩
      · rcases hx with ⟨-, e⟩ | ⟨-, e⟩
        · rw [e] at z; exact z.1 c
        · rw [e] at z; exact z.1 c
      · rcases hx with ⟨-, e⟩ | ⟨-, e⟩
        · rw [e] at z; exact z.2.1 hc
        · rw [e] at z; exact z.2.1 hc
      · rcases hx with ⟨e1, e⟩ | ⟨e1, e⟩
        · refine ip' e1 ?_
          rcases hv with ⟨v1, v2⟩ | ⟨v1, v2⟩
          · exact ip' v1 (hyes (by rw [e]; exact ⟨c, hc, v2⟩))
          · exact iN' (by rw [v1]; decide) (hno (fun z => by rw [e] at z; exact z.2.2 v2))
        · refine iN' e1 ?_
          rcases hv with ⟨v1, v2⟩ | ⟨v1, v2⟩
          · exact iN' (by rw [v1]; decide) (hno (fun z => by rw [e] at z; exact v2 z.2.2))
          · exact ip' v1 (hyes (by rw [e]; exact ⟨c, hc, v2⟩))
    show (vRk aS k < f1 5 → _) ∧ (¬ vRk aS k < f1 5 → _)
    rw [h1.1.2.2.2.2.2.1]
    exact ⟨fun c => hgo 0 (Or.inr ⟨rfl, c⟩), fun c => hgo 1 (Or.inl ⟨rfl, c⟩)⟩
theorem M_gather {po : wF → wA → wB → Prop} (h : Sta fS aS fM aM U IC NC rs rr) (hf : iFill aS aM U NC) (hp : ∀ f2 a2, f2 6 = nI (rwC aS rr NC) → (∀ k, k ≠ 6 → f2 k = fM k) → (∀ j, j ≠ 11 → a2 j = aM j) → (∀ r, r < rwC aS rr NC → a2 11 r = nI (rho aS rr NC r)) → po f2 a2 bM) : wp_M_gather po fM aM bM := by
  have hNC := h.1.2.2.1.2.2
  refine ⟨3, ?_⟩
  refine iN (by decide) (M_gath (L0 := []) (p := pk0 aS rr) h hf (Or.inl ⟨rfl, rfl⟩) (fun k hk => by have := rl_len (p := pk0 aS rr) k; simp; omega) ⟨rfl, fun k hk => va_up_ne _ _ hk, fun _ _ => rfl, fun r hr => absurd hr (Nat.not_lt_zero r)⟩ (fun f2 a2 q => ?_))
  rw [List.nil_append] at q
  refine iN (by decide) (M_gath (L0 := rl (pk0 aS rr) NC) (p := pk1 aS rr) h hf (Or.inr ⟨by decide, rfl⟩) (fun k hk => ?_) q (fun f3 a3 q3 => ?_))
  · have h1 := pk01_len aS rr NC
    have h2 : (rl (pk1 aS rr) k).length ≤ (rl (pk1 aS rr) NC).length := by
      have mono : ∀ m, (rl (pk1 aS rr) k).length ≤ (rl (pk1 aS rr) (k + m)).length := by
        intro m
        induction m with
        | zero => exact Nat.le_refl _
        | succ m ih =>
          by_cases hz : pk1 aS rr (k + m)
          · rw [← Nat.add_assoc, rl_y hz]; simp; omega
          · rw [← Nat.add_assoc, rl_n hz]; exact ih
      have := mono (NC - k)
      rw [show k + (NC - k) = NC by omega] at this
      exact this
    omega
  · exact ip (by decide) (hp f3 a3 q3.1 q3.2.1 q3.2.2.1 q3.2.2.2)
/-- the fixed units as a mask -/
noncomputable def fxm (a : wA) : Nat → Nat
  | 0 => 0
  | k + 1 => cif (fixN a k) (fxm a k ||| 2 ^ (a 22 k).toNatClampNeg) (fxm a k)
theorem fxm_y {a : wA} {k : Nat} (h : fixN a k) : fxm a (k + 1) = fxm a k ||| 2 ^ (a 22 k).toNatClampNeg := cif_p h
theorem fxm_n {a : wA} {k : Nat} (h : ¬ fixN a k) : fxm a (k + 1) = fxm a k := cif_n h
theorem fxm_lt (hs : SC aS U NC) : ∀ k, k ≤ NC → fxm aS k < 4096
  | 0, _ => by show 0 < 4096; decide
  | k + 1, hk => by
    have ih := fxm_lt hs k (by omega)
    have hU := hs.1
    by_cases h : fixN aS k
    · rw [fxm_y h]
      rcases (hs.2.2.1 k (by omega)).2.2.2.2 with z | ⟨u, u1, u2⟩
      · exact absurd z h.1
      · rw [u2, nI_clamp (by omega)]
        exact or_lt ih (by omega)
    · rw [fxm_n h]; exact ih
theorem fxm_tb {u : Nat} : ∀ k, tb (fxm aS k) u ↔ ∃ n, n < k ∧ fixN aS n ∧ (aS 22 n).toNatClampNeg = u
  | 0 => Iff.intro (fun h => by
      have : tb 0 u := h
      unfold tb at this
      rw [Nat.zero_testBit] at this
      cases this) (fun ⟨n, hn, _⟩ => absurd hn (Nat.not_lt_zero n))
  | k + 1 => by
    have ih := fxm_tb (u := u) k
    by_cases h : fixN aS k
    · rw [fxm_y h, tb_or, ih]
      constructor
      · rintro (⟨n, n1, n2, n3⟩ | e)
        · exact ⟨n, by omega, n2, n3⟩
        · exact ⟨k, by omega, h, e⟩
      · rintro ⟨n, n1, n2, n3⟩
        by_cases e : n = k
        · subst e; exact Or.inr n3
        · exact Or.inl ⟨n, by omega, n2, n3⟩
    · rw [fxm_n h, ih]
      constructor
      · rintro ⟨n, n1, n2, n3⟩
        exact ⟨n, by omega, n2, n3⟩
      · rintro ⟨n, n1, n2, n3⟩
        have : n ≠ k := fun e => h (by rw [← e]; exact n2)
        exact ⟨n, by omega, n2, n3⟩
theorem M_fixedUnits {po : Int32 → wF → wA → wB → Prop} (h : Sta fS aS fM aM U IC NC rs rr) (hf : iFill aS aM U NC) (hp : po (nI (fxm aS NC)) fM aM bM) : wp_M_fixedUnits po fM aM bM := by
  have hNC := h.1.2.2.1.2.2
  have hU := h.1.1.2.2
  have hs := h.sc hf
  refine pk_loop (σ := Int32) (fun m k s => wp_M_fixedUnits_4 po m s (nI k) fM aM bM) (fun k s => s = nI (fxm aS k)) NC 0 0 (by omega) rfl ?_ ?_
  · intro m s e
    exact pk_le NC NC (fun _ => by rw [e]; exact hp) (fun y => absurd y (by omega)) h.1.2.2.1.2.1
  · intro m k s hk e ih
    refine pk_le NC k (fun y => absurd y (by omega)) (fun _ => M_isFixed h hf hk (fun hc => iN n10 ⟨vp_in_nI (by omega) (by decide), ?_⟩) (fun hc => ip rfl ?_)) h.1.2.2.1.2.1
    · show wp_M_fixedUnits_4 po m _ (nI k + 1) fM aM bM
      have g1 := ((hf.1 k (by omega)).1 hk).1
      rw [nI_1, nI_clamp (n := k) (by omega), g1]
      refine ih _ ?_
      rcases (hs.2.2.1 k hk).2.2.2.2 with z | ⟨u, u1, u2⟩
      · exact absurd z hc.1
      · rw [e, fxm_y hc, u2, shl_u u (by omega), orI, nI_clamp (by omega)]
    · show wp_M_fixedUnits_4 po m s (nI k + 1) fM aM bM
      rw [nI_1]
      exact ih s (by rw [e, fxm_n hc])
end MH
