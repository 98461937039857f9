/-! one search: spread, findPaths -/
theorem en_eq {m p k : Nat} (hm : m < 2 ^ 31) (hp : p ≤ m) (hk : k < m) : en m p = nI k ↔ p = k := by
  by_cases e : p = m
  · rw [e, en_m]
    exact ⟨fun z => absurd z.symm (m1ne (by omega)), fun z => by omega⟩
  · rw [en_n e]
    exact nI_eq (by omega) (by omega)
def SB (n : Nat) (C : Nat → Nat → Int) (P : Nat → Nat) (pr : Nat → Int) (a0 : wA) (b0 : wB) (t i cur k : Nat) (X : (Nat → Bool) → Prop) (a : wA) (b : wB) : Prop := fra a0 a ∧ frb b0 b ∧ ∃ rc rt uc ut fr fs ch, SR n a b rc rt uc ut fr fs ch ∧ bfs n (al C) (wgt C) P pr (cmb rc rt) (cmb uc ut) fr ch fs cur k ∧ (∀ r, r < n → fs r = true → (if r < i then t + 2 else t + 1) ≤ (ch r).length) ∧ (cur < n → t + 1 ≤ (ch cur).length) ∧ X fs
def fpe (n : Nat) (C : Nat → Nat → Int) (P : Nat → Nat) (pr : Nat → Int) (a0 : wA) (b0 : wB) (a : wA) (b : wB) : Prop := fra a0 a ∧ frb b0 b ∧ ∃ rc rt uc ut fr fs ch, SR n a b rc rt uc ut fr fs ch ∧ bfe n (al C) (wgt C) P pr (cmb rc rt) (cmb uc ut) fr ch
section SPR
variable {n : Nat} {C : Nat → Nat → Int} {P Q : Nat → Nat} {pr pu : Nat → Int} {top : Int} {f : wF} {a0 a : wA} {b0 b : wB} {t i cur : Nat}
theorem P_spread {po : wF → wA → wB → Prop} (hc : PC n C P Q a0 b0) (hp : pot n (al C) (wgt C) P pr pu top) (hok : okP n (al C) P) (hcur : cur < n) (hs : SB n C P pr a0 b0 t i cur 0 (fun _ => True) a b) (h : ∀ a' b', SB n C P pr a0 b0 t i n 0 (fun _ => True) a' b' → po f a' b') : wp_P_spread po (nI cur) f a b := by
  have hn : n ≤ 10 := hc.1
  refine pk_loop (σ := wA × wB) (fun m k s => wp_P_spread_2 po m (nI cur) (nI k) f s.1 s.2) (fun k s => SB n C P pr a0 b0 t i cur k (fun _ => True) s.1 s.2) 12 0 (a, b) (by omega) hs ?_ ?_
  · rintro m ⟨a1, b1⟩ ⟨h1, h2, rc, rt, uc, ut, fr, fs, ch, g1, g2, g3, g4, -⟩
    refine ip (by decide) (h a1 b1 ⟨h1, h2, rc, rt, uc, ut, fr, fs, ch, g1, bfs_done g2, g3, fun z => absurd z (Nat.lt_irrefl n), trivial⟩)
  · rintro m k ⟨a1, b1⟩ hk hs1 ih
    obtain ⟨h1, h2, rc, rt, uc, ut, fr, fs, ch, g1, g2, g3, g4, -⟩ := id hs1
    have hc1 : PC n C P Q a1 b1 := hc.c h1 h2
    refine pk_le 12 k (fun y => absurd y (by omega)) (fun _ => ⟨vp_in_nI (by omega) (by decide), vp_in_nI hk (by decide), ?_⟩)
    have hskip : (al C cur k → P cur ≠ k → False) → wp_P_spread_2 po m (nI cur) (nI k + 1) f a1 b1 := fun hz => by
      rw [nI_1]
      exact ih (a1, b1) ⟨h1, h2, rc, rt, uc, ut, fr, fs, ch, g1, bfs_skip g2 (fun _ _ z1 z2 => (hz z1 z2).elim), g3, g4, trivial⟩
    show (lg_cmp (b1 (27 + (nI cur).toNatClampNeg) (nI k).toNatClampNeg) 0 = 0 → _) ∧ (¬ lg_cmp (b1 (27 + (nI cur).toNatClampNeg) (nI k).toNatClampNeg) 0 = 0 → _)
    obtain ⟨c1, c2, c3, c4, c5, c6⟩ := id hc1
    have hcb := c3 cur k (by omega) hk
    rw [lg_cmp_eq, nI_clamp (n := k) (by omega), nI_clamp (n := cur) (by omega), (c2 cur k (by omega) hk).1, show (0 : Int64) = Int64.ofInt 0 by decide, i64_eq (by unfold sml; omega) (by unfold sml; omega)]
    refine ⟨fun c => hskip (fun z _ => z c), fun c => ⟨vp_in_nI (by omega) (by decide), ?_⟩⟩
    show (a1 48 cur = nI k → _) ∧ (¬ a1 48 cur = nI k → _)
    rw [(c4 cur hcur).1, en_eq (by decide) (c4 cur hcur).2 hk]
    refine ⟨fun e => hskip (fun _ z => z e), fun e => ?_⟩
    refine P_reach hc1 hp hok g1 g2 hcur hk c e (fun a2 b2 ⟨q1, q2, rc2, rt2, uc2, ut2, fr2, fs2, ch2, q3, q4, q5, q6⟩ => ?_)
    show wp_P_spread_2 po m (nI cur) (nI k + 1) f a2 b2
    rw [nI_1]
    refine ih (a2, b2) ⟨h1.t q1, h2.t q2, rc2, rt2, uc2, ut2, fr2, fs2, ch2, q3, q4, fun r hr hh => ?_, fun hcc => by rw [q6]; exact g4 hcc, trivial⟩
    rcases q5 r hr hh with ⟨z1, z2⟩ | z
    · rw [z2]; exact g3 r hr z1
    · have := g4 hcur
      by_cases e2 : r < i
      · rw [if_pos e2]; omega
      · rw [if_neg e2]; omega
/-- a round over the rows -/
theorem P_round {po : wF → wA → wB → Prop} {J : Int32 → Int32 → Int32 → wF → wA → wB → Prop} {x3 : Int32} (hc : PC n C P Q a0 b0) (hp : pot n (al C) (wgt C) P pr pu top) (hok : okP n (al C) P) (hs : SB n C P pr a0 b0 t 0 n 0 (fun _ => True) a b) (h : ∀ x2 a' b', (x2 = 0 ∨ x2 = 1) → SB n C P pr a0 b0 t n n 0 (fun fs => x2 = 0 → ∀ r, r < n → fs r = false) a' b' → J (nI n) x2 (x3 + 1) f a' b') : ∃ n9, wp_P_findPaths_74 po J n9 (nI n) (0 : Int32) x3 (0 : Int32) f a b := by
  have hn : n ≤ 10 := hc.1
  refine pk_loop (σ := Int32 × wA × wB) (fun m k s => wp_P_findPaths_74 po J m (nI n) s.1 x3 (nI k) f s.2.1 s.2.2) (fun k s => (s.1 = 0 ∨ s.1 = 1) ∧ SB n C P pr a0 b0 t k n 0 (fun fs => s.1 = 0 → ∀ r, r < k → fs r = false) s.2.1 s.2.2) n 0 (0, a, b) (by omega) ⟨Or.inl rfl, ?_⟩ ?_ ?_
  · obtain ⟨h1, h2, rc, rt, uc, ut, fr, fs, ch, g1, g2, g3, g4, -⟩ := hs
    exact ⟨h1, h2, rc, rt, uc, ut, fr, fs, ch, g1, g2, g3, g4, fun _ r hr => absurd hr (Nat.not_lt_zero r)⟩
  · rintro m ⟨x2, a1, b1⟩ ⟨q1, q2⟩
    exact pk_le n n (fun _ => h x2 a1 b1 q1 q2) (fun y => absurd y (by omega))
  · rintro m k ⟨x2, a1, b1⟩ hk ⟨q1, h1, h2, rc, rt, uc, ut, fr, fs, ch, g1, g2, g3, g4, g5⟩ ih
    refine pk_le n k (fun y => absurd y (by omega)) (fun _ => ⟨vp_in_nI (by omega) (by decide), ?_⟩)
    show (a1 51 (nI k).toNatClampNeg = 0 → _) ∧ (¬ a1 51 (nI k).toNatClampNeg = 0 → _)
    have e51 := g1.2.1 k hk
    rw [nI_clamp (n := k) (by omega)]
    refine ⟨fun c => ?_, fun c => ⟨vp_in_nI (by omega) (by decide), ?_⟩⟩
    · have hfk : fs k = false := by
        cases hz : fs k with
        | false => rfl
        | true =>
          have e51' : a1 51 k = if fs k = true then 1 else 0 := e51
          rw [hz, if_pos rfl] at e51'
          exact absurd (e51'.symm.trans c) n10
      show wp_P_findPaths_74 po J m (nI n) x2 x3 (nI k + 1) f a1 b1
      rw [nI_1]
      refine ih (x2, a1, b1) ⟨q1, h1, h2, rc, rt, uc, ut, fr, fs, ch, g1, g2, fun r hr hh => ?_, g4, fun z r hr => ?_⟩
      · have := g3 r hr hh
        by_cases e : r = k
        · rw [e, hfk] at hh; cases hh
        · by_cases e2 : r < k
          · rw [if_pos e2] at this; rw [if_pos (by omega)]; exact this
          · rw [if_neg e2] at this; rw [if_neg (by omega)]; exact this
      · by_cases e : r = k
        · rw [e]; exact hfk
        · exact g5 z r (by omega)
    · have hfk : fs k = true := by
        cases hz : fs k with
        | true => rfl
        | false =>
          have e51' : a1 51 k = if fs k = true then 1 else 0 := e51
          rw [hz, if_neg (by decide)] at e51'
          exact absurd e51' c
      have hlen := g3 k hk hfk
      rw [if_neg (Nat.lt_irrefl k)] at hlen
      rw [nar0]
      refine P_spread (t := t) (i := k + 1) hc hp hok hk ⟨h1.t (fun j z1 z2 => va_up_ne _ _ z1), h2, rc, rt, uc, ut, fr, fu fs k false, ch, ⟨?_, ?_, g1.2.2.1, g1.2.2.2⟩, bfs_take g2 hk hfk, fun r hr hh => ?_, fun _ => hlen, trivial⟩ (fun a2 b2 hs2 => ?_)
      · intro u hu
        rw [va_up_ne _ _ (by decide)]
        exact g1.1 u hu
      · intro r hr
        rw [va_up_self]
        by_cases e : r = k
        · subst e; rw [pk_us, fu_s, if_neg (by decide)]
        · rw [pk_un e, fu_n e]; exact g1.2.1 r hr
      · by_cases e : r = k
        · rw [e, fu_s] at hh; cases hh
        · rw [fu_n e] at hh
          have := g3 r hr hh
          by_cases e2 : r < k
          · rw [if_pos e2] at this; rw [if_pos (by omega)]; exact this
          · rw [if_neg e2] at this; rw [if_neg (by omega)]; exact this
      · show wp_P_findPaths_74 po J m (nI n) 1 x3 (nI k + 1) f a2 b2
        rw [nI_1]
        obtain ⟨y1, y2, rc2, rt2, uc2, ut2, fr2, fs2, ch2, y3, y4, y5, y6, -⟩ := hs2
        exact ih (1, a2, b2) ⟨Or.inr rfl, y1, y2, rc2, rt2, uc2, ut2, fr2, fs2, ch2, y3, y4, y5, y6, fun z => absurd z n10⟩
/-- the rounds -/
theorem P_rounds {po : wF → wA → wB → Prop} (hc : PC n C P Q a0 b0) (hp : pot n (al C) (wgt C) P pr pu top) (hok : okP n (al C) P) (hs : SB n C P pr a0 b0 0 0 n 0 (fun _ => True) a b) (h : ∀ a' b', fpe n C P pr a0 b0 a' b' → po f a' b') : ∃ n9, wp_P_findPaths_60 po n9 (nI n) (1 : Int32) (0 : Int32) f a b := by
  have hn : n ≤ 10 := hc.1
  refine pk_loop (σ := Int32 × wA × wB) (fun m k s => wp_P_findPaths_60 po m (nI n) s.1 (nI k) f s.2.1 s.2.2) (fun k s => SB n C P pr a0 b0 k 0 n 0 (fun fs => s.1 = 0 → ∀ r, r < n → fs r = false) s.2.1 s.2.2) n 0 (1, a, b) (by omega) ?_ ?_ ?_
  · obtain ⟨h1, h2, rc, rt, uc, ut, fr, fs, ch, g1, g2, g3, g4, -⟩ := hs
    exact ⟨h1, h2, rc, rt, uc, ut, fr, fs, ch, g1, g2, g3, g4, fun z => absurd z n10⟩
  · rintro m ⟨x2, a1, b1⟩ ⟨h1, h2, rc, rt, uc, ut, fr, fs, ch, g1, g2, g3, g4, g5⟩
    refine pk_le n n (fun _ => h a1 b1 ⟨h1, h2, rc, rt, uc, ut, fr, fs, ch, g1, bfs_end g2 (fun r hr => ?_)⟩) (fun y => absurd y (by omega))
    cases hz : fs r with
    | false => rfl
    | true =>
      have l1 := g3 r hr hz
      rw [if_neg (Nat.not_lt_zero r)] at l1
      have l2 := (bfs_len g2 hr (g2.2.1 r hr hz)).1
      omega
  · rintro m k ⟨x2, a1, b1⟩ hk ⟨h1, h2, rc, rt, uc, ut, fr, fs, ch, g1, g2, g3, g4, g5⟩ ih
    refine pk_le n k (fun y => absurd y (by omega)) (fun _ => ⟨fun c => h a1 b1 ⟨h1, h2, rc, rt, uc, ut, fr, fs, ch, g1, bfs_end g2 (g5 c)⟩, fun c => ?_⟩)
    refine P_round hc hp hok ⟨h1, h2, rc, rt, uc, ut, fr, fs, ch, g1, g2, g3, g4, trivial⟩ (fun x2' a2 b2 hx hs2 => ?_)
    rw [nI_1]
    obtain ⟨y1, y2, rc2, rt2, uc2, ut2, fr2, fs2, ch2, y3, y4, y5, y6, y7⟩ := hs2
    refine ih (x2', a2, b2) ⟨y1, y2, rc2, rt2, uc2, ut2, fr2, fs2, ch2, y3, y4, fun r hr hh => ?_, fun z => absurd z (Nat.lt_irrefl n), y7⟩
    have := y5 r hr hh
    rw [if_pos hr] at this
    rw [if_neg (Nat.not_lt_zero r)]
    exact this
theorem P_findPaths {po : wF → wA → wB → Prop} (hc : PC n C P Q a0 b0) (hp : pot n (al C) (wgt C) P pr pu top) (hok : okP n (al C) P) (h : ∀ a' b', fpe n C P pr a0 b0 a' b' → po f a' b') : wp_P_findPaths po (nI n) f a0 b0 := by
  have hn : n ≤ 10 := hc.1
  refine pk_loop (σ := wA × wB) (fun m k s => wp_P_findPaths_10 po m (nI n) (nI k) f s.1 s.2) (fun k s => fra a0 s.1 ∧ frb b0 s.2 ∧ (∀ u, s.1 54 u = -1) ∧ ∀ r, r < k → s.1 51 r = (if P r = 12 then 1 else 0) ∧ s.2 52 r = 0 ∧ s.2 53 r = 0) n 0 (va_up a0 54 (fun _ => -1), b0) (by omega) ⟨fun j h1 h2 => va_up_ne _ _ h2, frb.r, fun u => by show va_up a0 54 (fun _ => -1) 54 u = -1; rw [va_up_self], fun r hr => absurd hr (Nat.not_lt_zero r)⟩ ?_ ?_
  · rintro m ⟨a1, b1⟩ ⟨h1, h2, h3, h4⟩
    refine pk_le n n (fun _ => ?_) (fun y => absurd y (by omega))
    refine P_rounds hc hp hok ⟨h1, h2, fun _ => 0, fun _ => 0, fun _ => 0, fun _ => 0, fun _ => 10, fun r => decide (P r = 12), fun r => [r], ⟨fun u hu => ⟨by rw [en_m]; exact h3 u, Nat.le_refl 10⟩, fun r hr => ?_, fun r hr => ⟨?_, ?_, ?_⟩, fun u hu z => absurd rfl z⟩, bfs_start hp (fun _ _ => rfl) (fun _ _ => rfl) (fun _ _ => rfl) hok.le, fun r hr _ => ?_, fun z => absurd z (Nat.lt_irrefl n), trivial⟩ h
    · rw [(h4 r hr).1]
      by_cases e : P r = 12
      · rw [if_pos e, if_pos (by exact decide_eq_true e)]
      · rw [if_neg e, if_neg (by simp [e])]
    · exact (h4 r hr).2.1
    · exact (h4 r hr).2.2
    · unfold lb; simp
    · rw [if_neg (Nat.not_lt_zero r)]
      exact Nat.le_refl 1
  · rintro m k ⟨a1, b1⟩ hk ⟨h1, h2, h3, h4⟩ ih
    refine pk_le n k (fun y => absurd y (by omega)) (fun _ => ⟨vp_in_nI (by omega) (by decide), ?_⟩)
    show (¬ a1 48 (nI k).toNatClampNeg = -1 → _) ∧ (a1 48 (nI k).toNatClampNeg = -1 → _)
    obtain ⟨c1, c2, c3, c4, c5, c6⟩ := (show PC n C P Q a1 b1 from hc.c h1 h2)
    rw [nI_clamp (n := k) (by omega), (c4 k hk).1, en_iff (by have := (c4 k hk).2; omega)]
    have hgo : ∀ v : Int32, vp_nar .boolean v = v → v = (if P k = 12 then 1 else 0) → wp_P_findPaths_35 po (wp_P_findPaths_10 po m) v (nI k) (nI n) (nI k) f a1 b1 := by
      intro v hv1 hv2
      refine ⟨vp_in_nI (by omega) (by decide), vp_in_nI (by omega) (by decide), vp_in_nI (by omega) (by decide), ?_⟩
      rw [nI_1, nI_clamp (n := k) (by omega), hv1]
      refine ih (_, _) ⟨fun j z1 z2 => (va_up_ne _ _ z1).trans (h1 j z1 z2), fun j z1 z2 z3 z4 => (va_up_ne _ _ z2).trans ((va_up_ne _ _ z1).trans (h2 j z1 z2 z3 z4)), fun u => h3 u, fun r hr => ?_⟩
      show upd (a1 51) k v r = _ ∧ vp_updL (b1 52) k 0 r = 0 ∧ vp_updL (b1 53) k 0 r = 0
      by_cases e : r = k
      · subst e; rw [pk_us, pk_uLs, pk_uLs]; exact ⟨hv2, rfl, rfl⟩
      · rw [pk_un e, pk_uLn e, pk_uLn e]; exact h4 r (by omega)
    exact ⟨fun c => hgo 0 nar0 (if_neg c).symm, fun c => hgo 1 nar1 (if_pos c).symm⟩
end SPR
