/-! the class's pairing: numbers, names for 'none', one search -/
def en (m k : Nat) : Int32 := if k = m then -1 else nI k
theorem en_m {m : Nat} : en m m = -1 := if_pos rfl
theorem en_n {m k : Nat} (h : k ≠ m) : en m k = nI k := if_neg h
theorem en_iff {m k : Nat} (hk : k < 2 ^ 31) : en m k = -1 ↔ k = m := by
  by_cases e : k = m
  · rw [e, en_m]; exact ⟨fun _ => rfl, fun _ => rfl⟩
  · rw [en_n e]; exact ⟨fun z => absurd z (m1ne hk), fun z => absurd z e⟩
def cmb (c t : Nat → Int) : Nat → Int := fun i => c i * 1152921504606846976 + t i
def wgt (C : Nat → Nat → Int) : Nat → Nat → Int := fun r u => C r u * 1152921504606846976 + tieI r u
def al (C : Nat → Nat → Int) : Nat → Nat → Prop := fun r u => C r u ≠ 0
theorem cmb_fu {c t : Nat → Int} {k : Nat} {x y z : Int} (h : z = x * 1152921504606846976 + y) : cmb (fu c k x) (fu t k y) = fu (cmb c t) k z := by
  funext i
  by_cases e : i = k
  · subst e
    rw [fu_s, h]
    show fu c i x i * _ + fu t i y i = _
    rw [fu_s, fu_s]
  · rw [fu_n e]
    show fu c k x i * _ + fu t k y i = _
    rw [fu_n e, fu_n e]
    rfl
def lb (c t : Int) (L : Nat) : Prop := -(1800000000 * (L : Int)) ≤ c ∧ c ≤ 1800000000 * (L : Int) ∧ -(275716983698 * (L : Int)) ≤ t ∧ t ≤ 275716983698 * (L : Int)
theorem tieI_bd : ∀ r, r < 10 → ∀ u, u < 12 → -137858491849 ≤ tieI r u ∧ tieI r u ≤ 0 := by decide
/-- Int64s of small numbers -/
def sml (c : Int) : Prop := -4611686018427387904 ≤ c ∧ c ≤ 4611686018427387904
theorem i64 {c : Int} (h : sml c) : (Int64.ofInt c).toInt = c := by
  unfold sml at h
  exact Int64.toInt_ofInt_of_le (by omega) (by omega)
theorem i64_lt {c d : Int} (hc : sml c) (hd : sml d) : Int64.ofInt c < Int64.ofInt d ↔ c < d := by rw [Int64.lt_iff_toInt_lt, i64 hc, i64 hd]
theorem i64_le {c d : Int} (hc : sml c) (hd : sml d) : Int64.ofInt c ≤ Int64.ofInt d ↔ c ≤ d := by rw [Int64.le_iff_toInt_le, i64 hc, i64 hd]
theorem i64_eq {c d : Int} (hc : sml c) (hd : sml d) : Int64.ofInt c = Int64.ofInt d ↔ c = d := by rw [← Int64.toInt_inj, i64 hc, i64 hd]
theorem P_isLess {po : Int32 → wF → wA → wB → Prop} {c1 t1 c2 t2 : Int} {f : wF} {a : wA} {b : wB} {L1 L2 : Nat} (b1 : lb c1 t1 L1) (b2 : lb c2 t2 L2) (hL1 : L1 ≤ 100) (hL2 : L2 ≤ 100) (h1 : c1 * 1152921504606846976 + t1 < c2 * 1152921504606846976 + t2 → po 1 f a b) (h0 : ¬ c1 * 1152921504606846976 + t1 < c2 * 1152921504606846976 + t2 → po 0 f a b) : wp_P_isLess po (Int64.ofInt c1) (Int64.ofInt t1) (Int64.ofInt c2) (Int64.ofInt t2) f a b := by
  unfold lb at b1 b2
  have s1 : sml c1 := by unfold sml; omega
  have s2 : sml c2 := by unfold sml; omega
  have s3 : sml t1 := by unfold sml; omega
  have s4 : sml t2 := by unfold sml; omega
  unfold wp_P_isLess
  rw [lg_cmp_lt, lg_cmp_eq, lg_cmp_ge, i64_lt s1 s2, i64_eq s1 s2, i64_le s4 s3]
  refine ⟨fun c => ⟨zb1, h1 (by omega)⟩, fun c => ⟨fun c2 => ⟨zb0, h0 (by omega)⟩, fun c2 => ⟨fun c3 => ⟨zb0, h0 (by omega)⟩, fun c3 => ⟨zb1, h1 (by omega)⟩⟩⟩⟩
/-- which row has a unit -/
def QP (n : Nat) (P Q : Nat → Nat) : Prop := ∀ v, v < 12 → (Q v = 10 ∧ ∀ r, r < n → P r ≠ v) ∨ (Q v < n ∧ P (Q v) = v)
def PC (n : Nat) (C : Nat → Nat → Int) (P Q : Nat → Nat) (a : wA) (b : wB) : Prop := n ≤ 10 ∧ (∀ r u, r < 10 → u < 12 → b (27 + r) u = Int64.ofInt (C r u) ∧ b (38 + r) u = Int64.ofInt (tieI r u)) ∧ (∀ r u, r < 10 → u < 12 → -900000000 ≤ C r u ∧ C r u ≤ 0) ∧ (∀ r, r < n → a 48 r = en 12 (P r) ∧ P r ≤ 12) ∧ (∀ u, u < 12 → a 49 u = en 10 (Q u)) ∧ QP n P Q
def SR (n : Nat) (a : wA) (b : wB) (rc rt uc ut : Nat → Int) (fr : Nat → Nat) (fs : Nat → Bool) (ch : Nat → List Nat) : Prop :=
  (∀ u, u < 12 → a 54 u = en 10 (fr u) ∧ fr u ≤ 10) ∧ (∀ r, r < n → a 51 r = if fs r = true then 1 else 0) ∧ (∀ r, r < n → b 52 r = Int64.ofInt (rc r) ∧ b 53 r = Int64.ofInt (rt r) ∧ lb (rc r) (rt r) (ch r).length) ∧
  (∀ u, u < 12 → fr u ≠ 10 → b 55 u = Int64.ofInt (uc u) ∧ b 56 u = Int64.ofInt (ut u) ∧ lb (uc u) (ut u) 11)
def fra (a a' : wA) : Prop := ∀ j, j ≠ 51 → j ≠ 54 → a' j = a j
def frb (b b' : wB) : Prop := ∀ j, j ≠ 52 → j ≠ 53 → j ≠ 55 → j ≠ 56 → b' j = b j
theorem fra.r {a : wA} : fra a a := fun _ _ _ => rfl
theorem frb.r {b : wB} : frb b b := fun _ _ _ _ _ => rfl
theorem fra.t {a a1 a2 : wA} (h : fra a a1) (g : fra a1 a2) : fra a a2 := fun j h1 h2 => (g j h1 h2).trans (h j h1 h2)
theorem frb.t {b b1 b2 : wB} (h : frb b b1) (g : frb b1 b2) : frb b b2 := fun j h1 h2 h3 h4 => (g j h1 h2 h3 h4).trans (h j h1 h2 h3 h4)
theorem PC.c {n : Nat} {C : Nat → Nat → Int} {P Q : Nat → Nat} {a a' : wA} {b b' : wB} (h : PC n C P Q a b) (ha : fra a a') (hb : frb b b') : PC n C P Q a' b' := by
  obtain ⟨h1, h2, h3, h4, h5, h6⟩ := h
  refine ⟨h1, fun r u hr hu => ?_, h3, fun r hr => ?_, fun u hu => ?_, h6⟩
  · rw [hb _ (by omega) (by omega) (by omega) (by omega), hb _ (by omega) (by omega) (by omega) (by omega)]; exact h2 r u hr hu
  · rw [ha _ (by decide) (by decide)]; exact h4 r hr
  · rw [ha _ (by decide) (by decide)]; exact h5 u hu
section RE
variable {n : Nat} {C : Nat → Nat → Int} {P Q : Nat → Nat} {pr pu : Nat → Int} {top : Int} {f : wF} {a : wA} {b : wB} {rc rt uc ut : Nat → Int} {fr : Nat → Nat} {fs : Nat → Bool} {ch : Nat → List Nat} {cur k : Nat}
/-- what one step of the search leaves -/
def stp (n : Nat) (C : Nat → Nat → Int) (P : Nat → Nat) (pr : Nat → Int) (a : wA) (b : wB) (fs : Nat → Bool) (ch : Nat → List Nat) (cur k : Nat) (a' : wA) (b' : wB) : Prop := fra a a' ∧ frb b b' ∧ ∃ rc rt uc ut fr fs' ch', SR n a' b' rc rt uc ut fr fs' ch' ∧ bfs n (al C) (wgt C) P pr (cmb rc rt) (cmb uc ut) fr ch' fs' cur k ∧ (∀ r, r < n → fs' r = true → (fs r = true ∧ ch' r = ch r) ∨ (ch cur).length < (ch' r).length) ∧ ch' cur = ch cur
theorem P_reach65 {po : wF → wA → wB → Prop} (hc : PC n C P Q a b) (hp : pot n (al C) (wgt C) P pr pu top) (hok : okP n (al C) P) (hs : SR n a b rc rt uc ut fr fs ch) (hb : bfs n (al C) (wgt C) P pr (cmb rc rt) (cmb uc ut) fr ch fs cur k) (hcur : cur < n) (hk : k < 12) (hal : al C cur k) (hne : P cur ≠ k) (hless : fr k = 10 ∨ cmb rc rt cur + wgt C cur k < cmb uc ut k)
    (h : ∀ a' b', stp n C P pr a b fs ch cur (k + 1) a' b' → po f a' b') : wp_P_reach_65 po (nI k) (nI cur) (Int64.ofInt (rc cur + C cur k)) (Int64.ofInt (rt cur + tieI cur k)) f a b := by
  obtain ⟨c1, c2, c3, c4, c5, c6⟩ := id hc
  obtain ⟨s1, s2, s3, s4⟩ := id hs
  have hch : (ch cur).length ≤ n ∧ 1 ≤ (ch cur).length := bfs_len hb hcur (hb.2.2.2 hcur).1
  have hcb := c3 cur k (by omega) hk
  have htb := tieI_bd cur (by omega) k hk
  have hlc := (s3 cur hcur).2.2
  have hz : cmb rc rt cur + wgt C cur k = (rc cur + C cur k) * 1152921504606846976 + (rt cur + tieI cur k) := by unfold cmb wgt; omega
  have hlb : lb (rc cur + C cur k) (rt cur + tieI cur k) 11 := by unfold lb at hlc ⊢; omega
  unfold wp_P_reach_65
  rw [nI_clamp (n := k) (by omega), va_up_ne _ _ (show (49 : Nat) ≠ 54 by decide), c5 k hk]
  refine ⟨vp_in_nI hk (by decide), vp_in_nI hk (by decide), vp_in_nI hk (by decide), vp_in_nI hk (by decide), fun c => ?_, fun c => ?_⟩
  · -- the unit is free
    rcases c6 k hk with ⟨e, hf⟩ | ⟨e, -⟩
    · refine h _ _ ⟨fun j h1 h2 => va_up_ne _ _ h2, fun j h1 h2 h3 h4 => (va_up_ne _ _ h4).trans (va_up_ne _ _ h3), rc, rt, fu uc k (rc cur + C cur k), fu ut k (rt cur + tieI cur k), fu fr k cur, fs, ch, ⟨fun u hu => ?_, fun r hr => ?_, fun r hr => ?_, fun u hu hfr => ?_⟩, ?_, fun r hr hh => Or.inl ⟨hh, rfl⟩, rfl⟩
      · rw [va_up_self]
        by_cases eu : u = k
        · subst eu
          rw [pk_us, fu_s, en_n (by omega)]
          exact ⟨rfl, by omega⟩
        · rw [pk_un eu, fu_n eu]; exact s1 u hu
      · rw [va_up_ne _ _ (by decide)]; exact s2 r hr
      · rw [va_up_ne _ _ (by decide), va_up_ne _ _ (by decide), va_up_ne _ _ (by decide), va_up_ne _ _ (by decide)]; exact s3 r hr
      · rw [va_up_self, va_up_ne _ _ (show (55 : Nat) ≠ 56 by decide), va_up_self, va_up_ne _ _ (show (56 : Nat) ≠ 55 by decide)]
        by_cases eu : u = k
        · subst eu
          rw [pk_uLs, pk_uLs, fu_s, fu_s]
          exact ⟨rfl, rfl, hlb⟩
        · rw [pk_uLn eu, pk_uLn eu, fu_n eu, fu_n eu]
          rw [fu_n eu] at hfr
          exact s4 u hu hfr
      · rw [cmb_fu hz]
        exact bfs_free hp hb c1 hcur hk hal hne hless hf
    · rw [en_iff (by omega)] at c; omega
  · rcases c6 k hk with ⟨e, hf⟩ | ⟨e, hq⟩
    · rw [e, en_m] at c; exact absurd rfl c
    · have e10 : Q k ≠ 10 := by omega
      rw [en_n e10, nI_clamp (n := Q k) (by omega), nar1]
      generalize Q k = q at e hq e10 ⊢
      have hcq := c3 q k (by omega) hk
      have htq := tieI_bd q (by omega) k hk
      have hqc : q ≠ cur := fun z => hne (by rw [← z]; exact hq)
      have b1 : b (27 + q) k = Int64.ofInt (C q k) := (c2 q k (by omega) hk).1
      have b2 : b (38 + q) k = Int64.ofInt (tieI q k) := (c2 q k (by omega) hk).2
      rw [va_up_ne (va_up b 55 _) _ (show 27 + q ≠ 56 by omega), va_up_ne b _ (show 27 + q ≠ 55 by omega), b1, ← Int64.ofInt_sub]
      rw [va_up_ne (va_up (va_up b 55 _) 56 _) _ (show 38 + q ≠ 52 by omega), va_up_ne (va_up b 55 _) _ (show 38 + q ≠ 56 by omega), va_up_ne b _ (show 38 + q ≠ 55 by omega), b2, ← Int64.ofInt_sub]
      refine ⟨vp_in_nI (by omega) (by decide), vp_in_nI hk (by decide), vp_in_nI (by omega) (by decide), vp_in_nI (by omega) (by decide), vp_in_nI hk (by decide), vp_in_nI (by omega) (by decide), vp_in_nI (by omega) (by decide), ?_⟩
      refine h _ _ ⟨fun j h1 h2 => (va_up_ne _ _ h1).trans (va_up_ne _ _ h2), fun j h1 h2 h3 h4 => (va_up_ne _ _ h2).trans ((va_up_ne _ _ h1).trans ((va_up_ne _ _ h4).trans (va_up_ne _ _ h3))), fu rc q (rc cur + C cur k - C q k), fu rt q (rt cur + tieI cur k - tieI q k), fu uc k (rc cur + C cur k), fu ut k (rt cur + tieI cur k), fu fr k cur, fu fs q true, fu ch q (q :: ch cur), ⟨fun u hu => ?_, fun r hr => ?_, fun r hr => ?_, fun u hu hfr => ?_⟩, ?_, fun r hr hh => ?_, fu_n (fun z => hqc z.symm)⟩
      · rw [va_up_ne _ _ (by decide), va_up_self]
        by_cases eu : u = k
        · subst eu
          rw [pk_us, fu_s, en_n (by omega)]
          exact ⟨rfl, by omega⟩
        · rw [pk_un eu, fu_n eu]; exact s1 u hu
      · rw [va_up_self, va_up_ne _ _ (show (51 : Nat) ≠ 54 by decide)]
        by_cases er : r = q
        · subst er
          rw [pk_us, fu_s, if_pos rfl]
        · rw [pk_un er, fu_n er]; exact s2 r hr
      · rw [va_up_self, va_up_ne _ _ (show (52 : Nat) ≠ 53 by decide), va_up_self]
        show vp_updL (b 52) q _ r = _ ∧ vp_updL (b 53) q _ r = _ ∧ _
        by_cases er : r = q
        · subst er
          rw [pk_uLs, pk_uLs, fu_s, fu_s, fu_s]
          refine ⟨rfl, rfl, ?_⟩
          unfold lb at hlc ⊢
          simp only [List.length_cons]
          omega
        · rw [pk_uLn er, pk_uLn er, fu_n er, fu_n er, fu_n er]; exact s3 r hr
      · show vp_updL (b 55) k _ u = _ ∧ vp_updL (b 56) k _ u = _ ∧ _
        by_cases eu : u = k
        · subst eu
          rw [pk_uLs, pk_uLs, fu_s, fu_s]
          exact ⟨rfl, rfl, hlb⟩
        · rw [pk_uLn eu, pk_uLn eu, fu_n eu, fu_n eu]
          rw [fu_n eu] at hfr
          exact s4 u hu hfr
      · rw [cmb_fu hz, cmb_fu (show cmb rc rt cur + wgt C cur k - wgt C q k = _ by rw [hz]; unfold wgt; omega)]
        exact bfs_held hp hok.2 hok.le hb c1 hcur hk hal hne hless e hq
      · by_cases er : r = q
        · subst er
          right
          rw [fu_s]
          simp
        · left
          rw [fu_n er] at hh
          exact ⟨hh, fu_n er⟩
theorem P_reach {po : wF → wA → wB → Prop} (hc : PC n C P Q a b) (hp : pot n (al C) (wgt C) P pr pu top) (hok : okP n (al C) P) (hs : SR n a b rc rt uc ut fr fs ch) (hb : bfs n (al C) (wgt C) P pr (cmb rc rt) (cmb uc ut) fr ch fs cur k) (hcur : cur < n) (hk : k < 12) (hal : al C cur k) (hne : P cur ≠ k)
    (h : ∀ a' b', stp n C P pr a b fs ch cur (k + 1) a' b' → po f a' b') : wp_P_reach po (nI k) (nI cur) f a b := by
  obtain ⟨c1, c2, c3, c4, c5, c6⟩ := id hc
  obtain ⟨s1, s2, s3, s4⟩ := id hs
  have hch : (ch cur).length ≤ n ∧ 1 ≤ (ch cur).length := bfs_len hb hcur (hb.2.2.2 hcur).1
  have hcb := c3 cur k (by omega) hk
  have htb := tieI_bd cur (by omega) k hk
  have hlc := (s3 cur hcur).2.2
  have hlb : lb (rc cur + C cur k) (rt cur + tieI cur k) 11 := by unfold lb at hlc ⊢; omega
  have hz : cmb rc rt cur + wgt C cur k = (rc cur + C cur k) * 1152921504606846976 + (rt cur + tieI cur k) := by unfold cmb wgt; omega
  unfold wp_P_reach
  rw [nI_clamp (n := k) (by omega), nI_clamp (n := cur) (by omega), (s1 k hk).1, (s3 cur hcur).1, (s3 cur hcur).2.1, (c2 cur k (by omega) hk).1, (c2 cur k (by omega) hk).2, ← Int64.ofInt_add, ← Int64.ofInt_add]
  refine ⟨vp_in_nI (by omega) (by decide), vp_in_nI (by omega) (by decide), vp_in_nI hk (by decide), vp_in_nI (by omega) (by decide), vp_in_nI (by omega) (by decide), vp_in_nI hk (by decide), vp_in_nI hk (by decide), fun c => ?_, fun c => ⟨vp_in_nI hk (by decide), vp_in_nI hk (by decide), ?_⟩⟩
  · rw [en_iff (by have := (s1 k hk).2; omega)] at c
    exact P_reach65 hc hp hok hs hb hcur hk hal hne (Or.inl c) h
  · have c' : fr k ≠ 10 := fun z => c (by rw [z, en_m])
    obtain ⟨u1, u2, u3⟩ := s4 k hk c'
    rw [u1, u2]
    refine P_isLess hlb u3 (by decide) (by decide) (fun hl => iN' n10 (P_reach65 hc hp hok hs hb hcur hk hal hne (Or.inr ?_) h)) (fun hl => ip' rfl (h a b ⟨fra.r, frb.r, rc, rt, uc, ut, fr, fs, ch, hs, bfs_skip hb (fun _ _ _ _ => ⟨c', ?_⟩), fun r _ hh => Or.inl ⟨hh, rfl⟩, rfl⟩))
    · rw [hz]; exact hl
    · rw [hz]; exact Int.not_lt.mp hl
end RE
