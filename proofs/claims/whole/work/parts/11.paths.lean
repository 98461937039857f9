/-! Pure rows: the search for cheapest ways (labels of rows and units), its invariant, its end. 10 = no row, 12 = no unit. ch: for each row reached the rows of its way, itself first (a ghost). -/
def rch (P fr : Nat → Nat) (r : Nat) : Prop := P r = 12 ∨ fr (P r) ≠ 10
/-- the row's pairs below the unit k are looked at -/
def rlx (al : Nat → Nat → Prop) (w : Nat → Nat → Int) (P : Nat → Nat) (rd ud : Nat → Int) (fr : Nat → Nat) (r k : Nat) : Prop := ∀ u, u < 12 → u < k → al r u → P r ≠ u → fr u ≠ 10 ∧ ud u ≤ rd r + w r u
def bf (n : Nat) (al : Nat → Nat → Prop) (w : Nat → Nat → Int) (P : Nat → Nat) (pr rd ud : Nat → Int) (fr : Nat → Nat) (ch : Nat → List Nat) : Prop :=
  (∀ r, r < n → P r = 12 → rd r = 0 ∧ ch r = [r]) ∧
  (∀ r, r < n → P r ≠ 12 → fr (P r) ≠ 10 → rd r = ud (P r) - w r (P r)) ∧
  (∀ u, u < 12 → fr u ≠ 10 → fr u < n ∧ al (fr u) u ∧ P (fr u) ≠ u ∧ rch P fr (fr u) ∧ rd (fr u) + w (fr u) u ≤ ud u) ∧
  (∀ r, r < n → rch P fr r → pr r ≤ rd r) ∧
  (∀ r, r < n → rch P fr r → (∀ x, x ∈ ch r → x < n ∧ rch P fr x ∧ rd x - pr x ≤ rd r - pr r) ∧ (ch r).Nodup ∧ r ∈ ch r) ∧
  (∀ r, r < n → P r ≠ 12 → fr (P r) ≠ 10 → rd (fr (P r)) + w (fr (P r)) (P r) < ud (P r) ∨ ch r = r :: ch (fr (P r)))
/-- .. while the row cur is looked at, its units below k done; fs: the rows to be looked at again -/
def bfs (n : Nat) (al : Nat → Nat → Prop) (w : Nat → Nat → Int) (P : Nat → Nat) (pr rd ud : Nat → Int) (fr : Nat → Nat) (ch : Nat → List Nat) (fs : Nat → Bool) (cur k : Nat) : Prop :=
  bf n al w P pr rd ud fr ch ∧ (∀ r, r < n → fs r = true → rch P fr r) ∧ (∀ r, r < n → rch P fr r → fs r = false → r ≠ cur → rlx al w P rd ud fr r 12) ∧
  (cur < n → rch P fr cur ∧ fs cur = false ∧ rlx al w P rd ud fr cur k)
theorem nodup_len : ∀ (n : Nat) (l : List Nat), l.Nodup → (∀ x, x ∈ l → x < n) → l.length ≤ n
  | 0, l, _, h => by
    cases l with
    | nil => exact Nat.le_refl 0
    | cons a t => exact absurd (h a List.mem_cons_self) (Nat.not_lt_zero a)
  | n + 1, l, hd, h => by
    have h1 : (l.erase n).length ≤ n := nodup_len n (l.erase n) (hd.erase n) (fun x hx => by
      have h2 := h x (List.mem_of_mem_erase hx)
      have h3 : x ≠ n := fun e => by
        rw [e] at hx
        exact (List.Nodup.not_mem_erase hd) hx
      omega)
    by_cases hm : n ∈ l
    · have := List.length_erase_of_mem hm
      omega
    · rw [List.erase_of_not_mem hm] at h1
      omega
section BF
variable {n : Nat} {al : Nat → Nat → Prop} {w : Nat → Nat → Int} {P : Nat → Nat} {pr pu rd ud : Nat → Int} {top : Int} {fr : Nat → Nat} {ch : Nat → List Nat} {fs : Nat → Bool} {cur k : Nat}
theorem rch_up {fr : Nat → Nat} {r k v : Nat} (hv : v ≠ 10) (h : rch P fr r) : rch P (fu fr k v) r := by
  rcases h with h | h
  · exact Or.inl h
  · refine Or.inr ?_
    by_cases e : P r = k
    · rw [e, fu_s]; exact hv
    · rw [fu_n e]; exact h
theorem rch_dn {fr : Nat → Nat} {r k v : Nat} (hk : P r ≠ k) (h : rch P (fu fr k v) r) : rch P fr r := by
  rcases h with h | h
  · exact Or.inl h
  · rw [fu_n hk] at h
    exact Or.inr h
theorem bfs_len (h : bfs n al w P pr rd ud fr ch fs cur k) {r : Nat} (hr : r < n) (hc : rch P fr r) : (ch r).length ≤ n ∧ 1 ≤ (ch r).length := by
  obtain ⟨⟨-, -, -, -, h5, -⟩, -⟩ := h
  obtain ⟨a, b, c⟩ := h5 r hr hc
  refine ⟨nodup_len n _ b (fun x hx => (a x hx).1), ?_⟩
  cases hl : ch r with
  | nil => rw [hl] at c; cases c
  | cons y t => simp
/-- nothing to do at the unit k -/
theorem bfs_skip (h : bfs n al w P pr rd ud fr ch fs cur k) (hs : cur < n → k < 12 → al cur k → P cur ≠ k → fr k ≠ 10 ∧ ud k ≤ rd cur + w cur k) : bfs n al w P pr rd ud fr ch fs cur (k + 1) := by
  obtain ⟨h1, h2, h3, h4⟩ := h
  refine ⟨h1, h2, h3, fun hc => ?_⟩
  obtain ⟨a, b, c⟩ := h4 hc
  refine ⟨a, b, fun u hu hk ha hn => ?_⟩
  by_cases e : u = k
  · subst e
    exact hs hc hu ha hn
  · exact c u hu (by omega) ha hn
/-- a better way to the unit k, which no row has -/
theorem bfs_free (hp : pot n al w P pr pu top) (h : bfs n al w P pr rd ud fr ch fs cur k) (hn : n ≤ 10) (hcur : cur < n) (hk : k < 12) (hal : al cur k) (hne : P cur ≠ k) (hb : fr k = 10 ∨ rd cur + w cur k < ud k) (hf : ∀ r, r < n → P r ≠ k) :
    bfs n al w P pr rd (fu ud k (rd cur + w cur k)) (fu fr k cur) ch fs cur (k + 1) := by
  obtain ⟨⟨b1, b2, b3, b4, b5, b6⟩, h2, h3, h4⟩ := h
  obtain ⟨c1, c2, c3⟩ := h4 hcur
  have hc10 : cur ≠ 10 := by omega
  have hd : ∀ r, r < n → rch P (fu fr k cur) r → rch P fr r := fun r hr hh => rch_dn (hf r hr) hh
  refine ⟨⟨b1, ?_, ?_, ?_, ?_, ?_⟩, ?_, ?_, ?_⟩
  · intro r hr hP hfr
    rw [fu_n (hf r hr)] at hfr ⊢
    exact b2 r hr hP hfr
  · intro u hu hfr
    by_cases e : u = k
    · subst e
      rw [fu_s, fu_s]
      exact ⟨hcur, hal, hne, rch_up hc10 c1, Int.le_refl _⟩
    · rw [fu_n e] at hfr ⊢
      rw [fu_n e]
      obtain ⟨d1, d2, d3, d4, d5⟩ := b3 u hu hfr
      exact ⟨d1, d2, d3, rch_up hc10 d4, d5⟩
  · intro r hr hh
    exact b4 r hr (hd r hr hh)
  · intro r hr hh
    obtain ⟨e1, e2, e3⟩ := b5 r hr (hd r hr hh)
    exact ⟨fun x hx => ⟨(e1 x hx).1, rch_up hc10 (e1 x hx).2.1, (e1 x hx).2.2⟩, e2, e3⟩
  · intro r hr hP hfr
    rw [fu_n (hf r hr)] at hfr ⊢
    rw [fu_n (hf r hr)]
    exact b6 r hr hP hfr
  · intro r hr hh
    exact rch_up hc10 (h2 r hr hh)
  · intro r hr hh hfs hne2 u hu _ ha hn2
    have g := h3 r hr (hd r hr hh) hfs hne2 u hu hu ha hn2
    by_cases e : u = k
    · subst e
      rw [fu_s, fu_s]
      refine ⟨hc10, ?_⟩
      rcases hb with hb | hb
      · exact absurd hb g.1
      · omega
    · rw [fu_n e, fu_n e]
      exact g
  · intro _
    refine ⟨rch_up hc10 c1, c2, fun u hu hk2 ha hn2 => ?_⟩
    by_cases e : u = k
    · subst e
      rw [fu_s, fu_s]
      exact ⟨hc10, Int.le_refl _⟩
    · rw [fu_n e, fu_n e]
      exact c3 u hu (by omega) ha hn2
/-- a better way to the unit k, and on to the row q that has it -/
theorem bfs_held (hp : pot n al w P pr pu top) (hj : inj n P) (hPl : ∀ r, r < n → P r ≤ 12) (h : bfs n al w P pr rd ud fr ch fs cur k) (hn : n ≤ 10) (hcur : cur < n) (hk : k < 12) (hal : al cur k) (hne : P cur ≠ k) (hb : fr k = 10 ∨ rd cur + w cur k < ud k) {q : Nat} (hq : q < n) (hqk : P q = k) :
    bfs n al w P pr (fu rd q (rd cur + w cur k - w q k)) (fu ud k (rd cur + w cur k)) (fu fr k cur) (fu ch q (q :: ch cur)) (fu fs q true) cur (k + 1) := by
  obtain ⟨⟨b1, b2, b3, b4, b5, b6⟩, h2, h3, h4⟩ := h
  obtain ⟨c1, c2, c3⟩ := h4 hcur
  obtain ⟨p1, p2, p3, p4⟩ := hp
  have hc10 : cur ≠ 10 := by omega
  have hqc : q ≠ cur := fun e => hne (by rw [← e]; exact hqk)
  have hcq : cur ≠ q := fun e => hqc e.symm
  have hq12 : P q ≠ 12 := by omega
  have hoth : ∀ r, r < n → r ≠ q → P r ≠ k := fun r hr e1 e2 => e1 (hj r q hr hq (by rw [e2, hqk]) (by omega))
  have hpu : pu k ≤ rd cur + w cur k := by
    have := p1 cur k hcur hk hal
    have := b4 cur hcur c1
    omega
  have hpq : w q k + pr q = pu k := by have := p2 q hq hq12; rw [hqk] at this; exact this
  have hred : rd cur - pr cur ≤ (rd cur + w cur k - w q k) - pr q := by
    have := p1 cur k hcur hk hal
    omega
  -- the row q's new label is less than its old one, if it had one
  have hless : rch P fr q → rd cur + w cur k - w q k < rd q := by
    intro hh
    rcases hh with hh | hh
    · exact absurd hh hq12
    · have g := b2 q hq hq12 hh
      rw [hqk] at g hh
      rcases hb with hb | hb
      · exact absurd hb hh
      · omega
  have hle : ∀ x, rch P fr x → fu rd q (rd cur + w cur k - w q k) x ≤ rd x := by
    intro x hx
    by_cases e : x = q
    · subst e
      rw [fu_s]
      have := hless hx
      omega
    · rw [fu_n e]
      exact Int.le_refl _
  have hup : ∀ r, rch P fr r → rch P (fu fr k cur) r := fun r hh => rch_up hc10 hh
  have hdn : ∀ r, r < n → r ≠ q → rch P (fu fr k cur) r → rch P fr r := fun r hr e hh => rch_dn (hoth r hr e) hh
  have hnot : q ∉ ch cur := by
    intro hm
    obtain ⟨e1, -, -⟩ := b5 cur hcur c1
    obtain ⟨-, f2, f3⟩ := e1 q hm
    have := hless f2
    omega
  refine ⟨⟨?_, ?_, ?_, ?_, ?_, ?_⟩, ?_, ?_, ?_⟩
  · intro r hr hP
    have e : r ≠ q := fun e => hq12 (by rw [← e]; exact hP)
    rw [fu_n e, fu_n e]
    exact b1 r hr hP
  · intro r hr hP hfr
    by_cases e : r = q
    · subst e
      rw [hqk, fu_s, fu_s]
    · have := hoth r hr e
      rw [fu_n this] at hfr ⊢
      rw [fu_n e]
      exact b2 r hr hP hfr
  · intro u hu hfr
    by_cases e : u = k
    · subst e
      rw [fu_s, fu_s, fu_n hcq]
      exact ⟨hcur, hal, hne, hup _ c1, Int.le_refl _⟩
    · rw [fu_n e] at hfr ⊢
      rw [fu_n e]
      obtain ⟨d1, d2, d3, d4, d5⟩ := b3 u hu hfr
      have := hle (fr u) d4
      exact ⟨d1, d2, d3, hup _ d4, by omega⟩
  · intro r hr hh
    by_cases e : r = q
    · subst e
      rw [fu_s]
      omega
    · rw [fu_n e]
      exact b4 r hr (hdn r hr e hh)
  · intro r hr hh
    by_cases e : r = q
    · subst e
      rw [fu_s, fu_s]
      obtain ⟨e1, e2, -⟩ := b5 cur hcur c1
      refine ⟨fun x hx => ?_, List.nodup_cons.mpr ⟨hnot, e2⟩, List.mem_cons_self⟩
      rcases List.mem_cons.mp hx with hx | hx
      · subst hx
        rw [fu_s]
        exact ⟨hr, hh, Int.le_refl _⟩
      · obtain ⟨f1, f2, f3⟩ := e1 x hx
        have := hle x f2
        exact ⟨f1, hup _ f2, by omega⟩
    · rw [fu_n e, fu_n e]
      obtain ⟨e1, e2, e3⟩ := b5 r hr (hdn r hr e hh)
      refine ⟨fun x hx => ?_, e2, e3⟩
      obtain ⟨f1, f2, f3⟩ := e1 x hx
      have := hle x f2
      exact ⟨f1, hup _ f2, by omega⟩
  · intro r hr hP hfr
    by_cases e : r = q
    · subst e
      refine Or.inr ?_
      simp only [hqk, fu_s, fu_n hcq]
    · have hk2 := hoth r hr e
      rw [fu_n hk2] at hfr ⊢
      rw [fu_n hk2, fu_n e]
      have hu12 : P r < 12 := by have := hPl r hr; omega
      have g := b6 r hr hP hfr
      by_cases e2 : fr (P r) = q
      · left
        obtain ⟨d1, d2, d3, d4, d5⟩ := b3 (P r) hu12 hfr
        rw [e2] at d4 d5
        rw [e2, fu_s]
        have := hless d4
        omega
      · rw [fu_n e2, fu_n e2]
        exact g
  · intro r hr hfs
    by_cases e : r = q
    · subst e
      exact Or.inr (by rw [hqk, fu_s]; exact hc10)
    · rw [fu_n e] at hfs
      exact hup _ (h2 r hr hfs)
  · intro r hr hh hfs hne2 u hu _ ha hn2
    have e : r ≠ q := fun e => by rw [e, fu_s] at hfs; cases hfs
    rw [fu_n e] at hfs ⊢
    have g := h3 r hr (hdn r hr e hh) hfs hne2 u hu hu ha hn2
    by_cases e2 : u = k
    · subst e2
      rw [fu_s, fu_s]
      refine ⟨hc10, ?_⟩
      rcases hb with hb | hb
      · exact absurd hb g.1
      · omega
    · rw [fu_n e2, fu_n e2]
      exact g
  · intro _
    refine ⟨hup _ c1, by rw [fu_n hcq]; exact c2, fun u hu hk2 ha hn2 => ?_⟩
    rw [fu_n hcq]
    by_cases e : u = k
    · subst e
      rw [fu_s, fu_s]
      exact ⟨hc10, Int.le_refl _⟩
    · rw [fu_n e, fu_n e]
      exact c3 u hu (by omega) ha hn2
end BF
section BF2
variable {n : Nat} {al : Nat → Nat → Prop} {w : Nat → Nat → Int} {P : Nat → Nat} {pr pu rd ud : Nat → Int} {top : Int} {fr : Nat → Nat} {ch : Nat → List Nat} {fs : Nat → Bool} {cur k : Nat}
/-- the search has come to its end: no row is to be looked at again -/
def bfe (n : Nat) (al : Nat → Nat → Prop) (w : Nat → Nat → Int) (P : Nat → Nat) (pr rd ud : Nat → Int) (fr : Nat → Nat) (ch : Nat → List Nat) : Prop :=
  bf n al w P pr rd ud fr ch ∧ ∀ r, r < n → rch P fr r → rlx al w P rd ud fr r 12
/-- at the start of a search: the rows without a unit are to be looked at -/
theorem bfs_start (hp : pot n al w P pr pu top) (hfr : ∀ u, u < 12 → fr u = 10) (hrd : ∀ r, r < n → rd r = 0) (hfs : ∀ r, r < n → fs r = decide (P r = 12)) (hPl : ∀ r, r < n → P r ≤ 12) : bfs n al w P pr rd ud fr (fun r => [r]) fs n 0 := by
  obtain ⟨p1, p2, p3, p4⟩ := hp
  have hun : ∀ r, r < n → P r ≠ 12 → ¬ fr (P r) ≠ 10 := fun r hr e h => h (hfr (P r) (by have := hPl r hr; omega))
  have hre : ∀ r, r < n → rch P fr r → P r = 12 := fun r hr h => by
    rcases h with h | h
    · exact h
    · by_cases e : P r = 12
      · exact e
      · exact absurd h (hun r hr e)
  refine ⟨⟨?_, ?_, ?_, ?_, ?_, ?_⟩, ?_, ?_, ?_⟩
  · intro r hr hP
    exact ⟨hrd r hr, rfl⟩
  · intro r hr hP hf
    exact absurd hf (hun r hr hP)
  · intro u hu hf
    exact absurd (hfr u hu) hf
  · intro r hr hh
    have := (p3 r hr).2 (hre r hr hh)
    have := hrd r hr
    omega
  · intro r hr hh
    refine ⟨fun x hx => ?_, by simp, by simp⟩
    rw [List.mem_singleton] at hx
    subst hx
    exact ⟨hr, hh, Int.le_refl _⟩
  · intro r hr hP hf
    exact absurd hf (hun r hr hP)
  · intro r hr h
    rw [hfs r hr] at h
    exact Or.inl (of_decide_eq_true h)
  · intro r hr hh hf
    rw [hfs r hr] at hf
    exact absurd (hre r hr hh) (of_decide_eq_false hf)
  · intro h
    exact absurd h (Nat.lt_irrefl n)
/-- a row is taken up -/
theorem bfs_take (h : bfs n al w P pr rd ud fr ch fs n 0) (hcur : cur < n) (hf : fs cur = true) : bfs n al w P pr rd ud fr ch (fu fs cur false) cur 0 := by
  obtain ⟨h1, h2, h3, h4⟩ := h
  refine ⟨h1, ?_, ?_, ?_⟩
  · intro r hr hh
    by_cases e : r = cur
    · rw [e]; exact h2 cur hcur hf
    · rw [fu_n e] at hh
      exact h2 r hr hh
  · intro r hr hh hfs hne
    rw [fu_n hne] at hfs
    exact h3 r hr hh hfs (by omega)
  · intro _
    refine ⟨h2 cur hcur hf, fu_s, fun u _ hk => absurd hk (Nat.not_lt_zero u)⟩
/-- .. and laid down -/
theorem bfs_done (h : bfs n al w P pr rd ud fr ch fs cur 12) : bfs n al w P pr rd ud fr ch fs n 0 := by
  obtain ⟨h1, h2, h3, h4⟩ := h
  refine ⟨h1, h2, ?_, fun h => absurd h (Nat.lt_irrefl n)⟩
  intro r hr hh hfs _
  by_cases e : r = cur
  · subst e
    exact (h4 hr).2.2
  · exact h3 r hr hh hfs e
theorem bfs_end (h : bfs n al w P pr rd ud fr ch fs n 0) (hf : ∀ r, r < n → fs r = false) : bfe n al w P pr rd ud fr ch := by
  obtain ⟨h1, h2, h3, -⟩ := h
  exact ⟨h1, fun r hr hh => h3 r hr hh (hf r hr) (by omega)⟩
/-- behind the search a unit's label is that of its row with the pair -/
theorem bfe_eq (h : bfe n al w P pr rd ud fr ch) {u : Nat} (hu : u < 12) (hf : fr u ≠ 10) : ud u = rd (fr u) + w (fr u) u := by
  obtain ⟨⟨-, -, b3, -, -, -⟩, h2⟩ := h
  obtain ⟨d1, d2, d3, d4, d5⟩ := b3 u hu hf
  have := (h2 (fr u) d1 d4 u hu hu d2 d3).2
  omega
theorem bfe_ch (h : bfe n al w P pr rd ud fr ch) {r : Nat} (hr : r < n) (hP : P r < 12) (hf : fr (P r) ≠ 10) : ch r = r :: ch (fr (P r)) := by
  have e := bfe_eq h hP hf
  obtain ⟨⟨-, -, -, -, -, b6⟩, -⟩ := h
  rcases b6 r hr (by omega) hf with g | g
  · omega
  · exact g
/-- the way of rows to a unit -/
def pth (P fr : Nat → Nat) : Nat → List Nat → Prop
  | u, [] => u = 12
  | u, x :: l => u ≠ 12 ∧ fr u = x ∧ pth P fr (P x) l
theorem bfe_pth (h : bfe n al w P pr rd ud fr ch) (hPl : ∀ r, r < n → P r ≤ 12) : ∀ (m r : Nat), r < n → rch P fr r → (ch r).length ≤ m → ∃ l, ch r = r :: l ∧ pth P fr (P r) l
  | 0, r, hr, hc, hm => by
    obtain ⟨⟨-, -, -, -, b5, -⟩, -⟩ := h
    have := (b5 r hr hc).2.2
    cases hl : ch r with
    | nil => rw [hl] at this; cases this
    | cons y t => rw [hl] at hm; simp at hm
  | m + 1, r, hr, hc, hm => by
    by_cases e : P r = 12
    · obtain ⟨⟨b1, -⟩, -⟩ := h
      exact ⟨[], (b1 r hr e).2, e⟩
    · have hlt : P r < 12 := by have := hPl r hr; omega
      have hf : fr (P r) ≠ 10 := by
        rcases hc with hc | hc
        · exact absurd hc e
        · exact hc
      have hch := bfe_ch h hr hlt hf
      have hx : fr (P r) < n ∧ rch P fr (fr (P r)) := by
        obtain ⟨⟨-, -, b3, -, -, -⟩, -⟩ := h
        obtain ⟨d1, d2, d3, d4, d5⟩ := b3 (P r) hlt hf
        exact ⟨d1, d4⟩
      obtain ⟨l, hl, hp⟩ := bfe_pth h hPl m (fr (P r)) hx.1 hx.2 (by rw [hch] at hm; simp at hm; omega)
      exact ⟨ch (fr (P r)), hch, by rw [hl]; exact ⟨e, rfl, hp⟩⟩
/-- the pairs along a way are turned -/
def turn : List Nat → Nat → (Nat → Nat) → Nat → Nat
  | [], _, P => P
  | x :: l, u, P => turn l (P x) (fu P x u)
theorem turn_out : ∀ (l : List Nat) (u : Nat) (P : Nat → Nat) (r : Nat), r ∉ l → turn l u P r = P r
  | [], _, _, _, _ => rfl
  | x :: l, u, P, r, h => by
    have h1 : r ≠ x := fun e => h (by rw [e]; exact List.mem_cons_self)
    have h2 : r ∉ l := fun e => h (List.mem_cons_of_mem _ e)
    show turn l (P x) (fu P x u) r = P r
    rw [turn_out l _ _ r h2, fu_n h1]
theorem pth_up {P fr : Nat → Nat} {x v : Nat} : ∀ (l : List Nat) (u : Nat), x ∉ l → pth P fr u l → pth (fu P x v) fr u l
  | [], _, _, h => h
  | y :: l, u, hx, h => by
    obtain ⟨h1, h2, h3⟩ := h
    have e : y ≠ x := fun e => hx (by rw [e]; exact List.mem_cons_self)
    refine ⟨h1, h2, ?_⟩
    rw [fu_n e]
    exact pth_up l _ (fun q => hx (List.mem_cons_of_mem _ q)) h3
/-- a row of the way has now the unit whose row it is -/
theorem turn_in {fr : Nat → Nat} : ∀ (l : List Nat) (u : Nat) (P : Nat → Nat), l.Nodup → pth P fr u l → ∀ r, r ∈ l → turn l u P r ≠ 12 ∧ fr (turn l u P r) = r ∧ (turn l u P r = u ∨ ∃ x, x ∈ l ∧ P x = turn l u P r)
  | [], _, _, _, _, r, h => by cases h
  | x :: l, u, P, hd, hp, r, h => by
    obtain ⟨hx, hd2⟩ := List.nodup_cons.mp hd
    obtain ⟨p1, p2, p3⟩ := hp
    by_cases e : r = x
    · subst e
      show turn l (P r) (fu P r u) r ≠ 12 ∧ fr (turn l (P r) (fu P r u) r) = r ∧ (turn l (P r) (fu P r u) r = u ∨ _)
      rw [turn_out l _ _ r hx, fu_s]
      exact ⟨p1, p2, Or.inl rfl⟩
    · have hm : r ∈ l := by
        rcases List.mem_cons.mp h with h | h
        · exact absurd h e
        · exact h
      obtain ⟨q1, q2, q3⟩ := turn_in l (P x) (fu P x u) hd2 (pth_up l (P x) hx p3) r hm
      refine ⟨q1, q2, Or.inr ?_⟩
      rcases q3 with q3 | ⟨y, hy, q3⟩
      · exact ⟨x, List.mem_cons_self, q3.symm⟩
      · have e2 : y ≠ x := fun e2 => hx (by rw [← e2]; exact hy)
        rw [fu_n e2] at q3
        exact ⟨y, List.mem_cons_of_mem _ hy, q3⟩
theorem ky_up {n : Nat} {w : Nat → Nat → Int} {P : Nat → Nat} {x u : Nat} (hx : x < n) : ky n w (fu P x u) = ky n w P - kyf w P x + (if u = 12 then 0 else w x u) := by
  have h : ky n w (fu P x u) = sm (fun i => if i = x then (if u = 12 then 0 else w x u) else kyf w P i) n := sm_congr (fun i _ => by
    show (if fu P x u i = 12 then 0 else w i (fu P x u i)) = _
    by_cases e : i = x
    · subst e
      rw [fu_s, if_pos rfl]
    · rw [fu_n e, if_neg e]
      rfl)
  rw [h, sm_upd hx]
  rfl
/-- what a turned way saves: the unit's label, for any weights that the labels fit -/
theorem turn_ky {n : Nat} {w : Nat → Nat → Int} {fr : Nat → Nat} {rd ud : Nat → Int} : ∀ (l : List Nat) (u : Nat) (P : Nat → Nat), l.Nodup → pth P fr u l → (∀ x, x ∈ l → x < n) →
    (∀ v, v ≠ 12 → fr v ∈ l → ud v = rd (fr v) + w (fr v) v) → (∀ x, x ∈ l → rd x = if P x = 12 then 0 else ud (P x) - w x (P x)) →
    ky n w (turn l u P) = ky n w P + if u = 12 then 0 else ud u
  | [], u, P, _, hp, _, _, _ => by
    have e : u = 12 := hp
    rw [if_pos e]
    show ky n w P = ky n w P + 0
    omega
  | x :: l, u, P, hd, hp, hn, h1, h2 => by
    obtain ⟨hx, hd2⟩ := List.nodup_cons.mp hd
    obtain ⟨p1, p2, p3⟩ := hp
    have hne : ∀ y, y ∈ l → y ≠ x := fun y hy e => hx (by rw [← e]; exact hy)
    have ih := turn_ky (n := n) (w := w) (fr := fr) (rd := rd) (ud := ud) l (P x) (fu P x u) hd2 (pth_up l (P x) hx p3) (fun y hy => hn y (List.mem_cons_of_mem _ hy)) (fun v hv hm => h1 v hv (List.mem_cons_of_mem _ hm))
      (fun y hy => by rw [fu_n (hne y hy)]; exact h2 y (List.mem_cons_of_mem _ hy))
    show ky n w (turn l (P x) (fu P x u)) = _
    rw [ih, ky_up (hn x List.mem_cons_self), if_neg p1, if_neg p1]
    have a := h1 u p1 (by rw [p2]; exact List.mem_cons_self)
    have b := h2 x List.mem_cons_self
    rw [p2] at a
    have c : kyf w P x = if P x = 12 then 0 else w x (P x) := rfl
    rw [c]
    by_cases e : P x = 12
    · rw [if_pos e, if_pos e]
      rw [if_pos e] at b
      omega
    · rw [if_neg e, if_neg e]
      rw [if_neg e] at b
      omega
theorem turn_cn {n : Nat} {fr : Nat → Nat} : ∀ (l : List Nat) (u : Nat) (P : Nat → Nat), l.Nodup → pth P fr u l → (∀ x, x ∈ l → x < n) → cn n (turn l u P) = cn n P + if u = 12 then 0 else 1
  | [], u, P, _, hp, _ => by
    have e : u = 12 := hp
    rw [if_pos e]
    show cn n P = cn n P + 0
    omega
  | x :: l, u, P, hd, hp, hn => by
    obtain ⟨hx, hd2⟩ := List.nodup_cons.mp hd
    obtain ⟨p1, p2, p3⟩ := hp
    have ih := turn_cn (n := n) (fr := fr) l (P x) (fu P x u) hd2 (pth_up l (P x) hx p3) (fun y hy => hn y (List.mem_cons_of_mem _ hy))
    show cn n (turn l (P x) (fu P x u)) = _
    have k1 : cn n (fu P x u) = cn n P - cnf P x + 1 := by
      have h : cn n (fu P x u) = sm (fun i => if i = x then 1 else cnf P i) n := sm_congr (fun i _ => by
        show (if fu P x u i = 12 then 0 else 1) = _
        by_cases e : i = x
        · subst e
          rw [fu_s, if_pos rfl, if_neg p1]
        · rw [fu_n e, if_neg e]
          rfl)
      rw [h, sm_upd (hn x List.mem_cons_self)]
      rfl
    rw [ih, k1, if_neg p1]
    have c : cnf P x = if P x = 12 then 0 else 1 := rfl
    rw [c]
    by_cases e : P x = 12
    · rw [if_pos e]; omega
    · rw [if_neg e]; omega
end BF2
