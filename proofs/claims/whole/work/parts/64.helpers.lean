/-! ways to go: a branch whose condition is known; the small methods of both -/
theorem ip {c A B : Prop} (h : c) (a : A) : (c → A) ∧ (¬ c → B) := ⟨fun _ => a, fun z => absurd h z⟩
theorem iN {c A B : Prop} (h : ¬ c) (b : B) : (c → A) ∧ (¬ c → B) := ⟨fun z => absurd z h, fun _ => b⟩
theorem ip' {c A B : Prop} (h : c) (a : A) : (¬ c → B) ∧ (c → A) := ⟨fun z => absurd h z, fun _ => a⟩
theorem iN' {c A B : Prop} (h : ¬ c) (b : B) : (¬ c → B) ∧ (c → A) := ⟨fun _ => b, fun z => absurd z h⟩
theorem n10 : ¬ (1 : Int32) = 0 := by decide
theorem m1ne {k : Nat} (h : k < 2 ^ 31) : ¬ nI k = -1 := fun e => by
  have h1 : (nI k).toInt = -1 := by rw [e]; decide
  rw [nI_toInt h] at h1
  omega
theorem m1neg : (-1 : Int32) < 0 := by decide
theorem and1 (x : Int32) : x &&& 1 = 0 ∨ x &&& 1 = 1 := by
  obtain ⟨j, hj, e⟩ := pk_andE x (m := 1) 1 (by decide)
  have : j = 0 ∨ j = 1 := by omega
  rcases this with h | h
  · left; rw [e, h]; rfl
  · right; rw [e, h]; rfl
def vInc (a : wA) (n : Nat) : Nat := (a 20 n).toNatClampNeg
def vSk (a : wA) (n : Nat) : Nat := (a 21 n).toNatClampNeg
def vSec (a : wA) (u n : Nat) : Int32 := a (6 + u) (vInc a n)
def vRk (a : wA) (n : Nat) : Int32 := a 18 (vInc a n)
def vOp (a : wA) (n : Nat) : Int32 := a 19 (vInc a n)
def vCan (a : wA) (u n : Nat) : Prop := a 2 u = 0 ∧ ¬ ((a 1 u >>> (a 21 n &&& 31)) &&& (1 : Int32)) = 0 ∧ ¬ vSec a u n = -1 ∧ (a 23 (vSk a n) = -1 ∨ ¬ a 23 (vSk a n) < vSec a u n)
/-- the need's incident and skill are such -/
def vNd (a : wA) (n : Nat) : Prop := n < 10 ∧ vp_in (a 20 n) 6 ∧ vp_in (a 21 n) 16
theorem S_isOpenNeed {po : Int32 → wF → wA → wB → Prop} {n : Nat} {f : wF} {a : wA} {b : wB} (hn : vNd a n) (hz : vOp a n = 0 ∨ vOp a n = 1) (h : po (vOp a n) f a b) : wp_S_isOpenNeed po (nI n) f a b := by
  unfold wp_S_isOpenNeed
  rw [nI_clamp (by have := hn.1; omega)]
  refine ⟨vp_in_nI hn.1 (by decide), hn.2.1, ?_, h⟩
  rcases hz with e | e
  · show zb (vOp a n); rw [e]; exact zb0
  · show zb (vOp a n); rw [e]; exact zb1
theorem S_rankOfNeed {po : Int32 → wF → wA → wB → Prop} {n : Nat} {f : wF} {a : wA} {b : wB} (hn : vNd a n) (h : po (vRk a n) f a b) : wp_S_rankOfNeed po (nI n) f a b := by
  unfold wp_S_rankOfNeed
  rw [nI_clamp (by have := hn.1; omega)]
  exact ⟨vp_in_nI hn.1 (by decide), hn.2.1, h⟩
theorem S_secondsTo {po : Int32 → wF → wA → wB → Prop} {u n : Nat} {f : wF} {a : wA} {b : wB} (hu : u < 12) (hn : vNd a n) (h : po (vSec a u n) f a b) : wp_S_secondsTo po (nI u) (nI n) f a b := by
  unfold wp_S_secondsTo
  rw [nI_clamp (n := n) (by have := hn.1; omega), nI_clamp (n := u) (by omega)]
  exact ⟨vp_in_nI hu (by decide), vp_in_nI hn.1 (by decide), hn.2.1, h⟩
theorem S_canFill {po : Int32 → wF → wA → wB → Prop} {u n : Nat} {f : wF} {a : wA} {b : wB} (hu : u < 12) (hn : vNd a n) (h1 : vCan a u n → po 1 f a b) (h0 : ¬ vCan a u n → po 0 f a b) : wp_S_canFill po (nI u) (nI n) f a b := by
  unfold wp_S_canFill
  rw [nI_clamp (n := n) (by have := hn.1; omega), nI_clamp (n := u) (by omega)]
  refine ⟨vp_in_nI hn.1 (by decide), vp_in_nI hu (by decide), fun c => ⟨zb0, h0 (fun q => c q.1)⟩, fun c => ⟨vp_in_nI hu (by decide), fun c2 => ?_, fun c2 => ⟨zb0, h0 (fun q => q.2.1 c2)⟩⟩⟩
  refine S_secondsTo hu hn ⟨fun c3 => ⟨zb0, h0 (fun q => q.2.2.1 c3)⟩, fun c3 => ⟨hn.2.2, fun c4 => ⟨zb1, h1 ⟨c, c2, c3, Or.inl c4⟩⟩, fun c4 => ⟨hn.2.2, fun c5 => ⟨zb0, h0 (fun q => ?_)⟩, fun c5 => ⟨zb1, h1 ⟨c, c2, c3, Or.inr c5⟩⟩⟩⟩⟩
  rcases q.2.2.2 with g | g
  · exact c4 g
  · exact g c5
/-- what send doesn't change -/
def Sta (fS : wF) (aS : wA) (fM : wF) (aM : wA) (U IC NC rs rr : Nat) : Prop := iCnt fS fM U IC NC rs rr ∧ iUnit aS aM U ∧ iBrk aS aM ∧ iSec aS aM ∧ iInc aS aM IC ∧ iNeed aS aM IC NC ∧ iLim aS aM
theorem Sta.cnt {fS : wF} {aS : wA} {fM : wF} {aM : wA} {U IC NC rs rr : Nat} (h : Sta fS aS fM aM U IC NC rs rr) : iCnt fS fM U IC NC rs rr := h.1
theorem Sta.nd {fS : wF} {aS : wA} {fM : wF} {aM : wA} {U IC NC rs rr : Nat} (h : Sta fS aS fM aM U IC NC rs rr) {n : Nat} (hn : n < NC) : vNd aS n ∧ vInc aS n < IC ∧ vSk aS n < 16 ∧ aS 20 n = nI (vInc aS n) ∧ aM 6 n = nI (vInc aS n) ∧ aS 21 n = nI (vSk aS n) ∧ aM 7 n = nI (vSk aS n) := by
  obtain ⟨⟨-, ⟨-, -, k2⟩, ⟨-, -, k3⟩, -⟩, -, -, -, -, h6, -⟩ := h
  obtain ⟨⟨c, c1, c2, c3⟩, ⟨k, d1, d2, d3⟩⟩ := h6 n hn
  have e1 : vInc aS n = c := by unfold vInc; rw [c2, nI_clamp (by omega)]
  have e2 : vSk aS n = k := by unfold vSk; rw [d2, nI_clamp (by omega)]
  rw [e1, e2]
  exact ⟨⟨by omega, by rw [c2]; exact vp_in_nI (by omega) (by decide), by rw [d2]; exact vp_in_nI d1 (by decide)⟩, c1, d1, c2, c3, d2, d3⟩
theorem Sta.rk {fS : wF} {aS : wA} {fM : wF} {aM : wA} {U IC NC rs rr : Nat} (h : Sta fS aS fM aM U IC NC rs rr) {n : Nat} (hn : n < NC) : ∃ r, 1 ≤ r ∧ r ≤ 9 ∧ vRk aS n = nI r ∧ aM 4 (vInc aS n) = nI r := by
  obtain ⟨g1, g2, -⟩ := h.nd hn
  obtain ⟨⟨-, ⟨-, -, k2⟩, -⟩, -, -, -, h5, -⟩ := h
  exact ((h5 (vInc aS n) (by omega)).1 g2).1
theorem Sta.op {fS : wF} {aS : wA} {fM : wF} {aM : wA} {U IC NC rs rr : Nat} (h : Sta fS aS fM aM U IC NC rs rr) {n : Nat} (hn : n < NC) : (vOp aS n = 1 ∧ aM 5 (vInc aS n) = 0) ∨ (vOp aS n = 0 ∧ aM 5 (vInc aS n) = 1) := by
  obtain ⟨g1, g2, -⟩ := h.nd hn
  obtain ⟨⟨-, ⟨-, -, k2⟩, -⟩, -, -, -, h5, -⟩ := h
  exact ((h5 (vInc aS n) (by omega)).1 g2).2
theorem Sta.op2 {fS : wF} {aS : wA} {fM : wF} {aM : wA} {U IC NC rs rr : Nat} (h : Sta fS aS fM aM U IC NC rs rr) {n : Nat} (hn : n < NC) : vOp aS n = 0 ∨ vOp aS n = 1 := by
  rcases h.op hn with g | g
  · exact Or.inr g.1
  · exact Or.inl g.1
theorem six (u i : Nat) : ((6 : Int32) * nI u) + nI i = nI (6 * u + i) := by
  show (nI 6 * nI u) + nI i = _
  rw [pk_mul, nI_add]
theorem Sta.sec {fS : wF} {aS : wA} {fM : wF} {aM : wA} {U IC NC rs rr : Nat} (h : Sta fS aS fM aM U IC NC rs rr) {u n : Nat} (hu : u < 12) (hn : n < NC) : aM 3 (6 * u + vInc aS n) = vSec aS u n ∧ sOK (vSec aS u n) := by
  obtain ⟨g1, g2, -⟩ := h.nd hn
  obtain ⟨⟨-, ⟨-, -, k2⟩, -⟩, -, -, h4, -⟩ := h
  exact h4 u (vInc aS n) hu (by omega)
theorem sOK_neg {x : Int32} (h : sOK x) : x < 0 ↔ x = -1 := by
  rcases h with h | ⟨k, hk, h⟩
  · rw [h]; exact ⟨fun _ => rfl, fun _ => m1neg⟩
  · rw [h]; exact ⟨fun q => absurd q (nI_pos (by omega)), fun q => absurd q (m1ne (by omega))⟩
section MS
variable {fS fM : wF} {aS aM : wA} {U IC NC rs rr : Nat}
theorem M_isOpen {po : Int32 → wF → wA → wB → Prop} {n : Nat} {b : wB} (h : Sta fS aS fM aM U IC NC rs rr) (hn : n < NC) (hp : po (vOp aS n) fM aM b) : wp_M_isOpen po (nI n) fM aM b := by
  obtain ⟨g1, g2, g3, g4, g5, g6, g7⟩ := h.nd hn
  have hi : vInc aS n < 6 := by have := h.cnt.2.1.2.2; omega
  unfold wp_M_isOpen
  rw [nI_clamp (n := n) (by have := g1.1; omega), g5, nI_clamp (by omega)]
  refine ⟨vp_in_nI g1.1 (by decide), vp_in_nI hi (by decide), fun c => ?_, fun c => ?_⟩
  · rcases h.op hn with q | q
    · exact absurd q.2 c
    · rw [q.1] at hp; exact ⟨zb0, hp⟩
  · rcases h.op hn with q | q
    · rw [q.1] at hp; exact ⟨zb1, hp⟩
    · rw [q.2] at c; exact absurd c n10
theorem M_rankOf {po : Int32 → wF → wA → wB → Prop} {n : Nat} {b : wB} (h : Sta fS aS fM aM U IC NC rs rr) (hn : n < NC) (hp : po (vRk aS n) fM aM b) : wp_M_rankOf po (nI n) fM aM b := by
  obtain ⟨g1, g2, g3, g4, g5, g6, g7⟩ := h.nd hn
  have hi : vInc aS n < 6 := by have := h.cnt.2.1.2.2; omega
  unfold wp_M_rankOf
  rw [nI_clamp (n := n) (by have := g1.1; omega), g5, nI_clamp (by omega)]
  obtain ⟨r, r1, r2, r3, r4⟩ := h.rk hn
  rw [r3, ← r4] at hp
  exact ⟨vp_in_nI g1.1 (by decide), vp_in_nI hi (by decide), hp⟩
theorem M_canFill {po : Int32 → wF → wA → wB → Prop} {u n : Nat} {b : wB} (h : Sta fS aS fM aM U IC NC rs rr) (hu : u < U) (hn : n < NC) (h1 : vCan aS u n → po 1 fM aM b) (h0 : ¬ vCan aS u n → po 0 fM aM b) : wp_M_canFill po (nI u) (nI n) fM aM b := by
  obtain ⟨g1, g2, g3, g4, g5, g6, g7⟩ := h.nd hn
  have hi : vInc aS n < 6 := by have := h.cnt.2.1.2.2; omega
  have hu2 : u < 12 := by have := h.cnt.1.2.2; omega
  obtain ⟨s1, s2⟩ := h.sec hu2 hn
  obtain ⟨-, q2, q3, -, -, -, q8⟩ := h
  obtain ⟨l1, l2⟩ := q8 (vSk aS n) g3
  obtain ⟨k, -, k2, k3⟩ := q2 u hu
  obtain ⟨b1, b2⟩ := q3 u hu2
  have hsk : aM 1 u >>> (aM 7 n &&& 31) = aS 1 u >>> (aS 21 n &&& 31) := by rw [k3, g7, k2, g6]
  unfold wp_M_canFill
  rw [nI_clamp (n := n) (by have := g1.1; omega), g5, six, nI_clamp (n := u) (by omega), nI_clamp (n := 6 * u + vInc aS n) (by omega), s1, b1, hsk, show (aM 7 n).toNatClampNeg = vSk aS n by rw [g7, nI_clamp (by omega)], l1, g7]
  refine ⟨vp_in_nI g1.1 (by decide), vp_in_nI (by omega) (by decide), vp_in_nI g1.1 (by decide), vp_in_nI g3 (by decide), vp_in_nI hu2 (by decide), fun c => ⟨zb0, h0 (fun q => c q.1)⟩, fun c => ⟨vp_in_nI hu2 (by decide), vp_in_nI g1.1 (by decide), fun c2 => ⟨zb0, h0 (fun q => ?_)⟩, fun c2 => ⟨fun c3 => ⟨zb0, h0 (fun q => q.2.2.1 ((sOK_neg s2).mp c3))⟩, fun c3 => ⟨fun c4 => ⟨zb1, h1 ⟨c, ?_, fun q => c3 ((sOK_neg s2).mpr q), Or.inl ((sOK_neg l2).mp c4)⟩⟩, fun c4 => ⟨fun c5 => ⟨zb0, h0 (fun q => ?_)⟩, fun c5 => ⟨zb1, h1 ⟨c, ?_, fun q => c3 ((sOK_neg s2).mpr q), Or.inr c5⟩⟩⟩⟩⟩⟩⟩
  · rcases and1 (aS 1 u >>> (aS 21 n &&& 31)) with z | z
    · exact q.2.1 z
    · exact c2 z
  · intro z; rw [z] at c2; exact absurd c2 (by decide)
  · rcases q.2.2.2 with g | g
    · exact c4 ((sOK_neg l2).mpr g)
    · exact g c5
  · intro z; rw [z] at c2; exact absurd c2 (by decide)
end MS
theorem M_needOf {po : Int32 → wF → wA → wB → Prop} {u NC : Nat} {x : Int32} {f : wF} {a : wA} {b : wB} (hf : f 3 = nI NC) (hNC : NC ≤ 10) (h1 : ∀ n, n < NC → a 8 n = nI u → x = nI n) (h2 : (∀ n, n < NC → a 8 n ≠ nI u) → x = -1) (hp : po x f a b) : wp_M_needOf po (nI u) f a b := by
  refine pk_loop (σ := Int32) (fun m k s => wp_M_needOf_4 po m (nI u) s (nI k) f a b) (fun k s => (s = -1 ∧ ∀ n, n < k → a 8 n ≠ nI u) ∨ s = x) NC 0 (-1) (by omega) (Or.inl ⟨rfl, fun n hn => absurd hn (Nat.not_lt_zero n)⟩) ?_ ?_
  · intro m s hs
    refine pk_le NC NC (fun _ => ?_) (fun z => absurd z (by omega)) hf
    rcases hs with ⟨e, hs⟩ | e
    · rw [e, ← h2 hs]; exact hp
    · rw [e]; exact hp
  · intro m k s hk hs ih
    refine pk_le NC k (fun z => absurd z (by omega)) (fun _ => ?_) hf
    refine ⟨vp_in_nI (by omega) (by decide), fun c => ?_, fun c => ?_⟩
    · rw [nI_clamp (by omega)] at c
      show wp_M_needOf_4 po m (nI u) s (nI k + 1) f a b
      rw [nI_1]
      refine ih s ?_
      rcases hs with ⟨e, hs⟩ | e
      · refine Or.inl ⟨e, fun n hn => ?_⟩
        by_cases e2 : n = k
        · rw [e2]; exact c
        · exact hs n (by omega)
      · exact Or.inr e
    · rw [nI_clamp (by omega)] at c
      show wp_M_needOf_4 po m (nI u) (nI k) (nI k + 1) f a b
      rw [nI_1]
      exact ih (nI k) (Or.inr (h1 k hk c).symm)
