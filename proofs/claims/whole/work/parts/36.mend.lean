/-! Mending the plan: rows by their lengths; the class's way. -/
section MEND
variable {G : GG} {l : Launch} {d : Nat} {post : Option AVal → AS → Prop} {σ : AS} {kk nn : Nat}
/-- the least p below n with P -/
def leastP (P : Nat → Bool) : Nat → Option Nat
  | 0 => none
  | n + 1 => match leastP P n with
    | some p => some p
    | none => if P n = true then some n else none
theorem leastP_none {P : Nat → Bool} : ∀ n, (∀ p, p < n → P p = false) → leastP P n = none
  | 0, _ => rfl
  | n + 1, h => by
    rw [leastP, leastP_none n (fun p hp => h p (by omega))]
    show (if P n = true then some n else none) = none
    rw [if_neg (by rw [h n (by omega)]; decide)]
theorem leastP_some {P : Nat → Bool} {x : Nat} : ∀ n, x < n → P x = true → (∀ p, p < x → P p = false) → leastP P n = some x
  | 0, h, _, _ => absurd h (Nat.not_lt_zero x)
  | n + 1, h, hx, hl => by
    rw [leastP]
    by_cases e : x = n
    · subst e
      rw [leastP_none x hl]
      show (if P x = true then some x else none) = some x
      rw [if_pos hx]
    · rw [leastP_some n (by omega) hx hl]
theorem leastP_out {P : Nat → Bool} {x : Nat} : ∀ n, leastP P n = some x → x < n ∧ P x = true ∧ ∀ p, p < x → P p = false
  | 0, h => by cases h
  | n + 1, h => by
    rw [leastP] at h
    cases c : leastP P n with
    | some p =>
      rw [c] at h
      cases h
      have := leastP_out n c
      exact ⟨by omega, this.2⟩
    | none =>
      rw [c] at h
      have h : (if P n = true then some n else none) = some x := h
      by_cases q : P n = true
      · rw [if_pos q] at h
        cases h
        refine ⟨Nat.lt_succ_self _, q, fun p hp => ?_⟩
        cases z : P p
        · rfl
        · have : ∀ m, p < m → leastP P m ≠ none := by
            intro m
            induction m with
            | zero => intro hm; omega
            | succ m ih =>
              intro hm e
              rw [leastP] at e
              by_cases e2 : p = m
              · subst e2
                cases c2 : leastP P p with
                | some y => rw [c2] at e; cases e
                | none =>
                  rw [c2] at e
                  have e : (if P p = true then some p else none) = none := e
                  rw [if_pos z] at e; cases e
              · cases c2 : leastP P m with
                | some y => rw [c2] at e; cases e
                | none => exact ih (by omega) c2
          exact absurd c (this _ hp)
      · rw [if_neg q] at h; cases h
theorem leastP_congr {P Q : Nat → Bool} : ∀ n, (∀ p, p < n → P p = Q p) → leastP P n = leastP Q n
  | 0, _ => rfl
  | n + 1, h => by rw [leastP, leastP, leastP_congr n (fun p hp => h p (by omega)), h n (by omega)]
theorem leastP_no {P : Nat → Bool} {n : Nat} (h : leastP P n = none) : ∀ p, p < n → P p = false := by
  intro p hp
  cases c : P p
  · rfl
  · exfalso
    have : ∀ x, x ≤ p → (∀ y, y < x → P y = false) ∨ ∃ y, y < x ∧ P y = true ∧ ∀ z, z < y → P z = false := by
      intro x
      induction x with
      | zero => intro _; exact Or.inl (fun y hy => absurd hy (Nat.not_lt_zero y))
      | succ x ih =>
        intro hx
        rcases ih (by omega) with k | ⟨y, k1, k2⟩
        · cases q : P x
          · exact Or.inl (fun y hy => by
              by_cases e : y = x
              · rw [e]; exact q
              · exact k y (by omega))
          · exact Or.inr ⟨x, Nat.lt_succ_self x, q, k⟩
        · exact Or.inr ⟨y, by omega, k2⟩
    rcases this p (Nat.le_refl p) with k | ⟨y, k1, k2, k3⟩
    · rw [leastP_some n hp c k] at h; cases h
    · rw [leastP_some n (by omega) k2 k3] at h; cases h
def leadB (asg rl : Nat → Option Nat) (len p : Nat) : Bool := match asg p with
  | none => decide (len = 1)
  | some x => decide (rl x = some (len - 1))
/-- p may begin a row of that length for a place in g -/
def rowP (asg : Nat → Option Nat) (can : Nat → Nat → Bool) (rl : Nat → Option Nat) (g len p : Nat) : Bool := leadB asg rl len p && decide (asg p ≠ some g) && can p g
/-- the length of the shortest row, looked for up to a length -/
def dl (N : Nat) (asg : Nat → Option Nat) (can : Nat → Nat → Bool) : Nat → Nat → Option Nat
  | 0 => fun _ => none
  | L + 1 => fun a => match dl N asg can L a with
    | some x => some x
    | none => if (leastP (rowP asg can (dl N asg can L) a (L + 1)) N).isSome = true then some (L + 1) else none
theorem dl_range {N : Nat} {asg : Nat → Option Nat} {can : Nat → Nat → Bool} : ∀ L a x, dl N asg can L a = some x → 1 ≤ x ∧ x ≤ L
  | 0, a, x, h => by cases h
  | L + 1, a, x, h => by
    rw [dl] at h
    cases c : dl N asg can L a with
    | some y =>
      have h : (match dl N asg can L a with | some x => some x | none => if (leastP (rowP asg can (dl N asg can L) a (L + 1)) N).isSome = true then some (L + 1) else none) = some x := h
      rw [c] at h
      cases h
      have := dl_range L a _ c
      omega
    | none =>
      have h : (match dl N asg can L a with | some x => some x | none => if (leastP (rowP asg can (dl N asg can L) a (L + 1)) N).isSome = true then some (L + 1) else none) = some x := h
      rw [c] at h
      have h : (if (leastP (rowP asg can (dl N asg can L) a (L + 1)) N).isSome = true then some (L + 1) else none) = some x := h
      by_cases q : (leastP (rowP asg can (dl N asg can L) a (L + 1)) N).isSome = true
      · rw [if_pos q] at h; cases h; omega
      · rw [if_neg q] at h; cases h
theorem dl_succ {N : Nat} {asg : Nat → Option Nat} {can : Nat → Nat → Bool} {L a : Nat} : dl N asg can (L + 1) a = (match dl N asg can L a with | some x => some x | none => if (leastP (rowP asg can (dl N asg can L) a (L + 1)) N).isSome = true then some (L + 1) else none) := rfl
theorem dl_keep {N : Nat} {asg : Nat → Option Nat} {can : Nat → Nat → Bool} {L a x : Nat} (h : dl N asg can L a = some x) : dl N asg can (L + 1) a = some x := by rw [dl_succ, h]
theorem dl_eqL {N : Nat} {asg : Nat → Option Nat} {can : Nat → Nat → Bool} {L a : Nat} : (dl N asg can (L + 1) a = some L) ↔ (dl N asg can L a = some L) := by
  constructor
  · intro h
    rw [dl_succ] at h
    cases c : dl N asg can L a with
    | some y => rw [c] at h; exact h
    | none =>
      rw [c] at h
      have h : (if (leastP (rowP asg can (dl N asg can L) a (L + 1)) N).isSome = true then some (L + 1) else none) = some L := h
      by_cases q : (leastP (rowP asg can (dl N asg can L) a (L + 1)) N).isSome = true
      · rw [if_pos q] at h
        have : L + 1 = L := by simpa using h
        omega
      · rw [if_neg q] at h; cases h
  · exact dl_keep
theorem dl_fin {N : Nat} {asg : Nat → Option Nat} {can : Nat → Nat → Bool} {a L : Nat} : ∀ M, L ≤ M → ((dl N asg can M a = some L) ↔ (dl N asg can L a = some L)) := by
  intro M hM
  induction M with
  | zero =>
    have : L = 0 := by omega
    subst this; exact Iff.rfl
  | succ M ih =>
    by_cases e : L = M + 1
    · subst e; exact Iff.rfl
    · rw [← ih (by omega)]
      constructor
      · intro h
        rw [dl_succ] at h
        cases c : dl N asg can M a with
        | some y => rw [c] at h; exact h
        | none =>
          rw [c] at h
          have h : (if (leastP (rowP asg can (dl N asg can M) a (M + 1)) N).isSome = true then some (M + 1) else none) = some L := h
          by_cases q : (leastP (rowP asg can (dl N asg can M) a (M + 1)) N).isSome = true
          · rw [if_pos q] at h
            have : M + 1 = L := by simpa using h
            omega
          · rw [if_neg q] at h; cases h
      · exact dl_keep
theorem rowP_congr {asg : Nat → Option Nat} {can : Nat → Nat → Bool} {rl rl' : Nat → Option Nat} {g len p : Nat} (h : ∀ x, rl x = some (len - 1) ↔ rl' x = some (len - 1)) : rowP asg can rl g len p = rowP asg can rl' g len p := by
  unfold rowP leadB
  cases asg p with
  | none => rfl
  | some x =>
    have : decide (rl x = some (len - 1)) = decide (rl' x = some (len - 1)) := decide_eq_decide.mpr (h x)
    simp only [this]
def rI : Option Nat → Int32
  | none => -1
  | some x => nI x
theorem rI_eq {o : Option Nat} {m : Nat} (h : ∀ x, o = some x → x < 2 ^ 31) (hm : m < 2 ^ 31) : rI o = nI m ↔ o = some m := by
  cases o with
  | none =>
    constructor
    · intro e
      exfalso
      have e : (-1 : Int32) = nI m := e
      exact absurd (e ▸ (by decide : (-1 : Int32) < 0)) (nI_pos hm)
    · intro e; cases e
  | some x =>
    show nI x = nI m ↔ some x = some m
    rw [nI_eq (h x rfl) hm]
    constructor
    · intro e; rw [e]
    · intro e; cases e; rfl
/-- the rows' lengths stand in the asks -/
def RLR (K a0 : Nat) (σ : AS) (rl : Nat → Option Nat) : Prop := ∀ a, a < K → gI σ 2 8 (a0 + a) = rI (rl a)
theorem c_first {N q K a0 g len : Nat} {asg rl : Nat → Option Nat} {can : Nat → Nat → Bool} (hP : PicS N q K a0 σ) (hA : Seat N K a0 σ asg) (hC : ∀ p, p < N → ∀ a, a < K → jb (gI σ 6 10 p) (nI a) = can p a) (hR : RLR K a0 σ rl) (hrl : ∀ a x, rl a = some x → x < 100) (hg : g < K) (h1 : 1 ≤ len) (h2 : len < 100)
    (h : post (some (xR ((leastP (rowP asg can rl g len) N).map (fun p => (6, p))))) σ) : AMet G l M_X6_firstOfRow (d + 4) 0 0 [xR (some (7, 0)), xR (some (2, a0 + g)), xI (nI len)] σ post := by
  obtain ⟨k1, k2, k3, k4, k5, k6, k7, k8, k9, k10⟩ := hP
  have loop : ∀ (f k : Nat), N - k = f → k ≤ N → (∀ p, p < k → rowP asg can rl g len p = false) → AW G l M_X6_firstOfRow (d + 4) post σ 0 0 2 [some (xR (some (7, 0))), some (xR (some (2, a0 + g))), some (xI (nI len)), some (xI (nI k)), none, none] [] := by
    intro f
    induction f with
    | zero =>
      intro k hf hk hn
      have e : k = N := by omega
      subst e
      refine vc_X6_firstOfRow_2 (d := d + 3) k1 (c_size k2 ⟨k1, fun _ => ?_, fun c => absurd (nI_le (Nat.le_refl k) (by omega)) c⟩)
      rw [leastP_none k hn] at h
      exact h
    | succ f ih =>
      intro k hf hk hn
      have hkN : k < N := by omega
      have next : rowP asg can rl g len k = false → AW G l M_X6_firstOfRow (d + 4) post σ 0 0 2 [some (xR (some (7, 0))), some (xR (some (2, a0 + g))), some (xI (nI len)), some (xI (nI k + 1)), none, none] [] := fun z => by
        rw [nI_1]
        refine ih (k + 1) (by omega) (by omega) (fun p hp => ?_)
        by_cases e : p = k
        · rw [e]; exact z
        · exact hn p (by omega)
      have found : rowP asg can rl g len k = true → post (some (xR (some (6, k)))) σ := fun z => by
        rw [leastP_some N hkN z hn] at h
        exact h
      refine vc_X6_firstOfRow_2 (d := d + 3) k1 (c_size k2 ⟨k1, fun c => absurd ((nI_leI (by omega) (by omega)).mp c) (by omega), fun _ => c_get k2 hkN ⟨k, rfl, fun c => ?_, fun n c => ?_⟩⟩)
      · have hn' : asg k = none := by
          rw [hA.1 k hkN] at c
          cases q : asg k with
          | none => rfl
          | some a => rw [q] at c; cases c
        refine ⟨fun z => next ?_, fun z => ⟨fun z2 => ?_, fun _ => c_canBeIn ?_⟩⟩
        · have : ¬ len = 1 := fun e => z (by rw [e]; rfl)
          unfold rowP leadB; rw [hn']; simp [this]
        · rw [c] at z2; cases z2
        · have e1 : len = 1 := (nI_eq (b := 1) (by omega) (by decide)).mp z
          rw [k10 g hg, hC k hkN g hg]
          refine ⟨fun z3 => next ?_, fun z3 => found ?_⟩
          · unfold rowP; rw [bI_eq.mp z3, Bool.and_false]
          · unfold rowP leadB; rw [bI_ne.mp z3, hn']; simp [e1]
      · obtain ⟨x, ex⟩ : ∃ x, asg k = some x := by
          rw [hA.1 k hkN] at c
          cases q : asg k with
          | none => rw [q] at c; cases c
          | some a => exact ⟨a, rfl⟩
        have hx := hA.2.1 k hkN x ex
        have eg : gR σ 6 11 k = some (2, a0 + x) := by rw [hA.1 k hkN, ex]; rfl
        obtain ⟨m, rfl⟩ : ∃ m, len = m + 1 := ⟨len - 1, by omega⟩
        have hri := rI_eq (o := rl x) (m := m) (fun y hy => by have := hrl x y hy; omega) (by omega)
        refine ⟨a0 + x, by rw [eg] at c; cases c; rfl, a0 + x, eg, fun z => next ?_, fun z => ⟨fun z2 => next ?_, fun z2 => c_canBeIn ?_⟩⟩
        · rw [hR x hx, nI_pred] at z
          have : ¬ rl x = some m := fun e => z (hri.mpr e)
          unfold rowP leadB; rw [ex]; simp [this]
        · have e2 : x = g := (map_ne (a0 := a0)).mp z2
          unfold rowP; rw [ex, e2]; simp
        · rw [hR x hx, nI_pred] at z
          have e1 := hri.mp z
          have e2 : ¬ x = g := fun e => z2 (by rw [e])
          rw [k10 g hg, hC k hkN g hg]
          refine ⟨fun z3 => next ?_, fun z3 => found ?_⟩
          · unfold rowP; rw [bI_eq.mp z3, Bool.and_false]
          · unfold rowP leadB; rw [bI_ne.mp z3, ex]; simp [e1, e2]
  refine AMet.of rfl (Nat.le_of_ble_eq_true rfl) (vc_X6_firstOfRow (d := d + 3) ?_)
  have k := loop N 0 rfl (Nat.zero_le _) (fun p hp => absurd hp (Nat.not_lt_zero p))
  rw [nI_0] at k
  exact k
/-- measuring changes the rows' lengths alone -/
def QF (σ σ' : AS) : Prop := sameK (fun c => c ≠ 2) σ σ' ∧ (∀ c, cnt σ' c = cnt σ c) ∧ (∀ f i, f ≠ 8 → gI σ' 2 f i = gI σ 2 f i) ∧ (∀ f i, gR σ' 2 f i = gR σ 2 f i) ∧ ∀ i, gN σ' 2 i = gN σ 2 i
theorem QF.rf : QF σ σ := ⟨sameK.rf, fun _ => rfl, fun _ _ _ => rfl, fun _ _ => rfl, fun _ => rfl⟩
theorem QF.tr {σ1 σ2 : AS} (h : QF σ σ1) (k : QF σ1 σ2) : QF σ σ2 := ⟨h.1.tr k.1, fun c => (k.2.1 c).trans (h.2.1 c), fun f i z => (k.2.2.1 f i z).trans (h.2.2.1 f i z), fun f i => (k.2.2.2.1 f i).trans (h.2.2.2.1 f i), fun i => (k.2.2.2.2 i).trans (h.2.2.2.2 i)⟩
theorem QF.set {x : Nat} {v : Int32} : QF σ (sI σ 2 8 x v) := ⟨fun c hc => eqK_sI hc, fun _ => rfl, fun f i z => by rw [gI_sI, if_neg (fun e => z e.2.1)], fun _ _ => rfl, fun _ => rfl⟩
theorem QF.pic {σ' : AS} {N q K a0 : Nat} (h : QF σ σ') (k : PicS N q K a0 σ) : PicS N q K a0 σ' := by
  obtain ⟨k1, k2, k3, k4, k5, k6, k7, k8, k9, k10⟩ := k
  have s : sameK (fun c => c = 0 ∨ c = 23) σ σ' := h.1.sub (fun c hc => by rcases hc with rfl | rfl <;> decide)
  exact ⟨k1.same h.1 (fun c hc e => by subst e; revert hc; unfold stKind; decide), k2.same s, k3, (h.2.1 6).trans k4, fun p hp => ((h.1 6 (by decide)).2.1 0 p).trans (k5 p hp), ((h.1 7 (by decide)).2.2.1 0 0).trans k6, k7.same s, k8, by rw [h.2.1]; exact k9, fun a ha => (h.2.2.1 0 _ (by decide)).trans (k10 a ha)⟩
theorem QF.seat {σ' : AS} {N K a0 : Nat} {asg : Nat → Option Nat} (h : QF σ σ') (k : Seat N K a0 σ asg) : Seat N K a0 σ' asg := ⟨fun p hp => ((h.1 6 (by decide)).2.2.1 11 p).trans (k.1 p hp), k.2.1, fun a ha => (h.2.2.1 6 _ (by decide)).trans (k.2.2 a ha)⟩
theorem RLR.set {K a0 a : Nat} {rl : Nat → Option Nat} {v : Option Nat} (h : RLR K a0 σ rl) : RLR K a0 (sI σ 2 8 (a0 + a) (rI v)) (fun x => if x = a then v else rl x) := fun x hx => by
  show _ = rI (if x = a then v else rl x)
  rw [gI_sI]
  by_cases e : x = a
  · rw [if_pos ⟨rfl, rfl, by rw [e]⟩, if_pos e]
  · rw [if_neg (fun z => e (by omega)), if_neg e]; exact h x hx
theorem c_measure {N q K a0 : Nat} {asg : Nat → Option Nat} {can : Nat → Nat → Bool} (hP : PicS N q K a0 σ) (hA : Seat N K a0 σ asg) (hC : ∀ p, p < N → ∀ a, a < K → jb (gI σ 6 10 p) (nI a) = can p a) (h : ∀ σ', QF σ σ' → RLR K a0 σ' (dl N asg can K) → post none σ') : AMet G l M_X6_measureRows (d + 5) 0 0 [xR (some (7, 0))] σ post := by
  have hK := hP.2.2.2.2.2.2.2.1
  have pass : ∀ (L : Nat), L < K → ∀ (f v : Nat) (σ1 : AS) (rl : Nat → Option Nat), K - v = f → v ≤ K → QF σ σ1 → RLR K a0 σ1 rl → (∀ x, rl x = if x < v then dl N asg can (L + 1) x else dl N asg can L x) →
      (∀ σ2, QF σ σ2 → RLR K a0 σ2 (dl N asg can (L + 1)) → AW G l M_X6_measureRows (d + 5) post σ2 0 0 36 [some (xR (some (7, 0))), some (xI (nI (L + 1) + 1)), none, none] []) →
      AW G l M_X6_measureRows (d + 5) post σ1 0 0 49 [some (xR (some (7, 0))), some (xI (nI (L + 1))), some (xI (nI v)), none] [] := by
    intro L hL f
    induction f with
    | zero =>
      intro v σ1 rl hf hv F R hrl k
      have P1 := F.pic hP
      have e : v = K := by omega
      subst e
      refine vc_X6_measureRows_49 (d := d + 4) ⟨q, P1.2.2.2.2.2.1, c_size P1.2.2.2.2.2.2.1 ⟨fun _ => k σ1 F (fun a ha => ?_), fun c => absurd (nI_le (Nat.le_refl v) (by omega)) c⟩⟩
      rw [R a ha, hrl a, if_pos ha]
    | succ f ih =>
      intro v σ1 rl hf hv F R hrl k
      have P1 := F.pic hP
      have hvK : v < K := by omega
      have rng : ∀ a x, rl a = some x → x < 100 := fun a x e => by
        rw [hrl a] at e
        by_cases c : a < v
        · rw [if_pos c] at e; have := dl_range _ _ _ e; omega
        · rw [if_neg c] at e; have := dl_range _ _ _ e; omega
      have rv : rl v = dl N asg can L v := by rw [hrl v, if_neg (Nat.lt_irrefl v)]
      refine vc_X6_measureRows_49 (d := d + 4) ⟨q, P1.2.2.2.2.2.1, c_size P1.2.2.2.2.2.2.1 ⟨fun c => absurd ((nI_leI (by omega) (by omega)).mp c) (by omega), fun _ => ⟨q, P1.2.2.2.2.2.1, c_get P1.2.2.2.2.2.2.1 hvK ⟨a0 + v, rfl, fun c => ?_, fun c => ?_⟩⟩⟩⟩
      · rw [R v hvK, rv] at c
        rw [nI_1]
        refine ih (v + 1) σ1 rl (by omega) (by omega) F R (fun x => ?_) k
        rw [hrl x]
        by_cases e : x = v
        · subst e
          rw [if_neg (Nat.lt_irrefl x), if_pos (Nat.lt_succ_self x)]
          cases q : dl N asg can L x with
          | none => rw [q] at c; exact absurd rfl c
          | some y => rw [dl_keep q]
        · by_cases e2 : x < v
          · rw [if_pos e2, if_pos (show x < v + 1 by omega)]
          · rw [if_neg e2, if_neg (show ¬ x < v + 1 by omega)]
      · rw [R v hvK, rv] at c
        have dn : dl N asg can L v = none := by
          cases q : dl N asg can L v with
          | none => rfl
          | some y =>
            rw [q] at c
            have c : nI y = -1 := c
            have := (dl_range _ _ _ q).2
            exact absurd (c.symm ▸ (by decide : (-1 : Int32) < 0)) (nI_pos (show y < 2 ^ 31 by omega))
        have er : leastP (rowP asg can rl v (L + 1)) N = leastP (rowP asg can (dl N asg can L) v (L + 1)) N := leastP_congr N (fun p _ => rowP_congr (fun x => by
          rw [hrl x]
          show _ = some L ↔ _ = some L
          by_cases e2 : x < v
          · rw [if_pos e2]; exact dl_eqL
          · rw [if_neg e2]))
        have ds := dl_succ (N := N) (asg := asg) (can := can) (L := L) (a := v)
        rw [dn] at ds
        refine c_first (d := d) (can := can) P1 (F.seat hA) (fun p hp a ha => by rw [(F.1 6 (by decide)).2.1]; exact hC p hp a ha) R rng hvK (by omega) (by omega) ?_
        rw [er]
        refine ⟨fun z => ?_, fun n z => ?_⟩
        · rw [nI_1]
          refine ih (v + 1) σ1 rl (by omega) (by omega) F R (fun x => ?_) k
          rw [hrl x]
          by_cases e : x = v
          · subst e
            rw [if_neg (Nat.lt_irrefl x), if_pos (Nat.lt_succ_self x), ds]
            cases q : leastP (rowP asg can (dl N asg can L) x (L + 1)) N with
            | none => rw [dn]; rfl
            | some y => rw [q] at z; cases z
          · by_cases e2 : x < v
            · rw [if_pos e2, if_pos (show x < v + 1 by omega)]
            · rw [if_neg e2, if_neg (show ¬ x < v + 1 by omega)]
        · obtain ⟨y, ey⟩ : ∃ y, leastP (rowP asg can (dl N asg can L) v (L + 1)) N = some y := by
            cases q : leastP (rowP asg can (dl N asg can L) v (L + 1)) N with
            | none => rw [q] at z; cases z
            | some y => exact ⟨y, rfl⟩
          rw [ey] at z ds
          refine ⟨y, by cases z; rfl, ?_⟩
          rw [nI_1]
          have R2 := R.set (a := v) (v := some (L + 1))
          refine ih (v + 1) _ _ (by omega) (by omega) (F.tr QF.set) R2 (fun x => ?_) k
          by_cases e : x = v
          · rw [if_pos e, e, if_pos (Nat.lt_succ_self v), ds]; rfl
          · rw [if_neg e, hrl x]
            by_cases e2 : x < v
            · rw [if_pos e2, if_pos (show x < v + 1 by omega)]
            · rw [if_neg e2, if_neg (show ¬ x < v + 1 by omega)]
  have outer : ∀ (f L : Nat) (σ1 : AS), K - L = f → L ≤ K → QF σ σ1 → RLR K a0 σ1 (dl N asg can L) → AW G l M_X6_measureRows (d + 5) post σ1 0 0 36 [some (xR (some (7, 0))), some (xI (nI (L + 1))), none, none] [] := by
    intro f
    induction f with
    | zero =>
      intro L σ1 hf hL F R
      have P1 := F.pic hP
      have e : L = K := by omega
      subst e
      exact vc_X6_measureRows_36 (d := d + 4) ⟨q, P1.2.2.2.2.2.1, c_size P1.2.2.2.2.2.2.1 ⟨fun _ => h σ1 F R, fun c => absurd (nI_lt (Nat.lt_succ_self L) (by omega)) c⟩⟩
    | succ f ih =>
      intro L σ1 hf hL F R
      have P1 := F.pic hP
      refine vc_X6_measureRows_36 (d := d + 4) ⟨q, P1.2.2.2.2.2.1, c_size P1.2.2.2.2.2.2.1 ⟨fun c => absurd ((nI_ltI (by omega) (by omega)).mp c) (by omega), fun _ => ?_⟩⟩
      have k := pass L (by omega) K 0 σ1 (dl N asg can L) rfl (Nat.zero_le _) F R (fun x => by rw [if_neg (Nat.not_lt_zero x)]) (fun σ2 F2 R2 => by
        rw [nI_1]
        exact ih (L + 1) σ2 (by omega) (by omega) F2 R2)
      rw [nI_0] at k
      exact k
  have init : ∀ (f v : Nat) (σ1 : AS), K - v = f → v ≤ K → QF σ σ1 → (∀ a, a < v → gI σ1 2 8 (a0 + a) = -1) → AW G l M_X6_measureRows (d + 5) post σ1 0 0 2 [some (xR (some (7, 0))), some (xI (nI v)), none, none] [] := by
    intro f
    induction f with
    | zero =>
      intro v σ1 hf hv F hm
      have P1 := F.pic hP
      have e : v = K := by omega
      subst e
      exact vc_X6_measureRows_2 (d := d + 4) ⟨q, P1.2.2.2.2.2.1, c_size P1.2.2.2.2.2.2.1 ⟨fun _ => outer v 0 σ1 rfl (Nat.zero_le _) F (fun a ha => hm a ha), fun c => absurd (nI_le (Nat.le_refl v) (by omega)) c⟩⟩
    | succ f ih =>
      intro v σ1 hf hv F hm
      have P1 := F.pic hP
      refine vc_X6_measureRows_2 (d := d + 4) ⟨q, P1.2.2.2.2.2.1, c_size P1.2.2.2.2.2.2.1 ⟨fun c => absurd ((nI_leI (by omega) (by omega)).mp c) (by omega), fun _ => ⟨q, P1.2.2.2.2.2.1, c_get P1.2.2.2.2.2.2.1 (show v < K by omega) ⟨a0 + v, rfl, ?_⟩⟩⟩⟩
      rw [nI_1]
      refine ih (v + 1) _ (by omega) (by omega) (F.tr QF.set) (fun a ha => ?_)
      rw [gI_sI]
      by_cases e : a = v
      · rw [if_pos ⟨rfl, rfl, by rw [e]⟩]
      · rw [if_neg (fun z => e (by omega))]; exact hm a (by omega)
  refine AMet.of rfl (Nat.le_of_ble_eq_true rfl) (vc_X6_measureRows (d := d + 4) ?_)
  have k := init K 0 σ rfl (Nat.zero_le _) QF.rf (fun a ha => absurd ha (Nat.not_lt_zero a))
  rw [nI_0] at k
  exact k
end MEND
