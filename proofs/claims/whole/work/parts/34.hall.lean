/-! Counting: when all of a set can have places. -/
def cS (P : Nat → Bool) : Nat → Nat
  | 0 => 0
  | n + 1 => cS P n + (if P n = true then 1 else 0)
def sS (r : Nat → Nat) (T : Nat → Bool) : Nat → Nat
  | 0 => 0
  | k + 1 => sS r T k + (if T k = true then r k else 0)
/-- how many of P are in a -/
def cP (asg : Nat → Option Nat) (P : Nat → Bool) (a : Nat) : Nat → Nat
  | 0 => 0
  | n + 1 => cP asg P a n + (if P n = true ∧ asg n = some a then 1 else 0)
/-- p can go to asks of T alone -/
def subB (can : Nat → Nat → Bool) (K p : Nat) (T : Nat → Bool) : Bool := decide (∀ a, a < K → can p a = true → T a = true)
def hall (N K : Nat) (can : Nat → Nat → Bool) (r : Nat → Nat) (P : Nat → Bool) : Prop := ∀ T : Nat → Bool, cS (fun p => P p && subB can K p T) N ≤ sS r T K
theorem sS_congr {r r' : Nat → Nat} {T : Nat → Bool} : ∀ K, (∀ a, a < K → T a = true → r a = r' a) → sS r T K = sS r' T K
  | 0, _ => rfl
  | k + 1, h => by
    rw [sS, sS, sS_congr k (fun a ha => h a (by omega))]
    by_cases c : T k = true
    · rw [if_pos c, if_pos c, h k (by omega) c]
    · rw [if_neg c, if_neg c]
theorem sS_le {r r' : Nat → Nat} {T : Nat → Bool} : ∀ K, (∀ a, a < K → T a = true → r a ≤ r' a) → sS r T K ≤ sS r' T K
  | 0, _ => Nat.le_refl _
  | k + 1, h => by
    have := sS_le k (fun a ha => h a (by omega))
    rw [sS, sS]
    by_cases c : T k = true
    · have := h k (by omega) c
      rw [if_pos c, if_pos c]; omega
    · rw [if_neg c, if_neg c]; omega
theorem sS_lt {r r' : Nat → Nat} {T : Nat → Bool} {x : Nat} : ∀ K, x < K → T x = true → r x < r' x → (∀ a, a < K → T a = true → r a ≤ r' a) → sS r T K < sS r' T K
  | 0, h, _, _, _ => absurd h (Nat.not_lt_zero x)
  | k + 1, hx, ht, hlt, h => by
    rw [sS, sS]
    by_cases e : x = k
    · subst e
      have := sS_le (T := T) x (fun a ha => h a (by omega))
      rw [if_pos ht, if_pos ht]; omega
    · have := sS_lt k (by omega) ht hlt (fun a ha => h a (by omega))
      by_cases c : T k = true
      · have := h k (by omega) c
        rw [if_pos c, if_pos c]; omega
      · rw [if_neg c, if_neg c]; omega
theorem sS_one {f : Nat → Nat} {T : Nat → Bool} {x : Nat} : ∀ K, sS (fun a => f a + (if a = x then 1 else 0)) T K = sS f T K + (if x < K ∧ T x = true then 1 else 0)
  | 0 => by rw [if_neg (fun h => absurd h.1 (Nat.not_lt_zero x))]; rfl
  | k + 1 => by
    rw [sS, sS, sS_one k]
    by_cases e : x = k
    · subst e
      rw [if_neg (fun h => absurd h.1 (Nat.lt_irrefl x))]
      by_cases c : T x = true
      · rw [if_pos c, if_pos c, if_pos rfl, if_pos ⟨Nat.lt_succ_self x, c⟩]; omega
      · rw [if_neg c, if_neg c, if_neg (fun h => c h.2)]
    · have h1 : (x < k + 1 ∧ T x = true) ↔ (x < k ∧ T x = true) := ⟨fun h => ⟨by omega, h.2⟩, fun h => ⟨by omega, h.2⟩⟩
      by_cases c : T k = true
      · rw [if_pos c, if_pos c, if_neg (c := k = x) (fun h => e h.symm)]
        by_cases c2 : x < k ∧ T x = true
        · rw [if_pos c2, if_pos (h1.mpr c2)]; omega
        · rw [if_neg c2, if_neg (fun z => c2 (h1.mp z))]; omega
      · rw [if_neg c, if_neg c]
        by_cases c2 : x < k ∧ T x = true
        · rw [if_pos c2, if_pos (h1.mpr c2)]
        · rw [if_neg c2, if_neg (fun z => c2 (h1.mp z))]
/-- the sum over T of those of P who are in it, step by step -/
theorem sP_succ {asg : Nat → Option Nat} {P T : Nat → Bool} {K : Nat} (n : Nat) : sS (fun a => cP asg P a (n + 1)) T K = sS (fun a => cP asg P a n) T K + (match asg n with | some x => if P n = true ∧ x < K ∧ T x = true then 1 else 0 | none => 0) := by
  cases c : asg n with
  | none =>
    refine (sS_congr K (fun a _ _ => ?_)).trans (Nat.add_zero _).symm
    rw [cP, c, if_neg (fun h => by cases h.2)]; rfl
  | some x =>
    by_cases hp : P n = true
    · have e : sS (fun a => cP asg P a (n + 1)) T K = sS (fun a => cP asg P a n + (if a = x then 1 else 0)) T K := sS_congr K (fun a _ _ => by
        rw [cP, c]
        by_cases q : a = x
        · rw [if_pos ⟨hp, by rw [q]⟩, if_pos q]
        · rw [if_neg (fun h => by have := h.2; cases this; exact q rfl), if_neg q])
      rw [e, sS_one]
      by_cases q : x < K ∧ T x = true
      · simp [hp, q]
      · have : ¬ (P n = true ∧ x < K ∧ T x = true) := fun z => q z.2
        simp only [if_neg q, if_neg this]
    · have e : sS (fun a => cP asg P a (n + 1)) T K = sS (fun a => cP asg P a n) T K := sS_congr K (fun a _ _ => by
        rw [cP, if_neg (fun h => hp h.1)]; rfl)
      rw [e]
      have : ¬ (P n = true ∧ x < K ∧ T x = true) := fun z => hp z.1
      simp only [if_neg this, Nat.add_zero]
theorem sP_zero {asg : Nat → Option Nat} {P T : Nat → Bool} : ∀ K, sS (fun a => cP asg P a 0) T K = 0
  | 0 => rfl
  | k + 1 => by
    rw [sS, sP_zero k]
    by_cases c : T k = true
    · rw [if_pos c]; rfl
    · rw [if_neg c]
/-- whoever has places has room -/
theorem hall_of {N K : Nat} {can : Nat → Nat → Bool} {r : Nat → Nat} {P : Nat → Bool} (asg : Nat → Option Nat) (h1 : ∀ p, p < N → P p = true → ∃ a, a < K ∧ asg p = some a ∧ can p a = true) (h2 : ∀ a, a < K → cP asg P a N ≤ r a) : hall N K can r P := by
  intro T
  have key : ∀ n, n ≤ N → cS (fun p => P p && subB can K p T) n ≤ sS (fun a => cP asg P a n) T K := by
    intro n
    induction n with
    | zero => intro _; exact Nat.zero_le _
    | succ n ih =>
      intro hn
      have ih := ih (by omega)
      rw [cS, sP_succ]
      by_cases c : (P n && subB can K n T) = true
      · rw [if_pos c]
        have c1 : P n = true := by cases q : P n <;> simp [q] at c ⊢
        have c2 : subB can K n T = true := by cases q : subB can K n T <;> simp [q] at c ⊢
        obtain ⟨a, ha, e, hc⟩ := h1 n (by omega) c1
        have ht := (of_decide_eq_true c2) a ha hc
        rw [e]
        have : (P n = true ∧ a < K ∧ T a = true) := ⟨c1, ha, ht⟩
        simp only [if_pos this]
        omega
      · rw [if_neg c]; omega
  exact Nat.le_trans (key N (Nat.le_refl N)) (sS_le K (fun a ha _ => h2 a ha))
/-- a tried set that is full and closed -/
theorem cS_ge {N K : Nat} {can : Nat → Nat → Bool} {P T : Nat → Bool} (asg : Nat → Option Nat) (h1 : ∀ p, p < N → P p = true → ∀ a, a < K → asg p = some a → T a = true → subB can K p T = true) : ∀ n, n ≤ N → sS (fun a => cP asg P a n) T K ≤ cS (fun p => P p && subB can K p T && (asg p).isSome) n := by
  intro n
  induction n with
  | zero => intro _; rw [sP_zero]; exact Nat.zero_le _
  | succ n ih =>
    intro hn
    have ih := ih (by omega)
    rw [cS, sP_succ]
    cases c : asg n with
    | none =>
      have : ¬ (P n && subB can K n T && (none : Option Nat).isSome) = true := by simp
      show _ + 0 ≤ _
      omega
    | some x =>
      by_cases q : P n = true ∧ x < K ∧ T x = true
      · have := h1 n (by omega) q.1 x q.2.1 c q.2.2
        have e : (P n && subB can K n T && (some x : Option Nat).isSome) = true := by rw [q.1, this]; rfl
        simp only [if_pos q, if_pos e]
        omega
      · simp only [if_neg q]
        omega
theorem cS_mono {P Q : Nat → Bool} : ∀ n, (∀ p, p < n → P p = true → Q p = true) → cS P n ≤ cS Q n
  | 0, _ => Nat.le_refl _
  | n + 1, h => by
    have := cS_mono n (fun p hp => h p (by omega))
    rw [cS, cS]
    by_cases c : P n = true
    · rw [if_pos c, if_pos (h n (by omega) c)]; omega
    · rw [if_neg c]; omega
theorem cS_lt {P Q : Nat → Bool} {x : Nat} : ∀ n, x < n → P x = false → Q x = true → (∀ p, p < n → P p = true → Q p = true) → cS P n < cS Q n
  | 0, h, _, _, _ => absurd h (Nat.not_lt_zero x)
  | n + 1, hx, h1, h2, h => by
    rw [cS, cS]
    by_cases e : x = n
    · subst e
      have := cS_mono x (fun p hp => h p (by omega))
      rw [if_neg (by rw [h1]; decide), if_pos h2]; omega
    · have := cS_lt n (by omega) h1 h2 (fun p hp => h p (by omega))
      by_cases c : P n = true
      · rw [if_pos c, if_pos (h n (by omega) c)]; omega
      · rw [if_neg c]; omega
/-- no room: T is full and closed, and one more is bound to it -/
theorem not_hall1 {N K : Nat} {can : Nat → Nat → Bool} {r : Nat → Nat} {P T : Nat → Bool} (asg : Nat → Option Nat) (h1 : ∀ p, p < N → P p = true → ∀ a, a < K → asg p = some a → T a = true → subB can K p T = true) (h2 : ∀ a, a < K → T a = true → r a ≤ cP asg P a N) {x : Nat} (hx : x < N) (px : P x = true) (sx : subB can K x T = true) (nx : asg x = none) : ¬ hall N K can r P := by
  intro h
  have a1 := h T
  have a2 := sS_le (r := r) (r' := fun a => cP asg P a N) (T := T) K h2
  have a3 := cS_ge (can := can) asg h1 N (Nat.le_refl N)
  have a4 : cS (fun p => P p && subB can K p T && (asg p).isSome) N < cS (fun p => P p && subB can K p T) N := cS_lt N hx (by show (P x && subB can K x T && (asg x).isSome) = false; rw [nx]; simp) (by show (P x && subB can K x T) = true; rw [px, sx]; rfl) (fun p _ z => by
    have z : (P p && subB can K p T && (asg p).isSome) = true := z
    show (P p && subB can K p T) = true
    cases q : (P p && subB can K p T)
    · rw [q] at z; simp at z
    · rfl)
  omega
/-- no room: T is more than full, and closed -/
theorem not_hall2 {N K : Nat} {can : Nat → Nat → Bool} {r : Nat → Nat} {P T : Nat → Bool} (asg : Nat → Option Nat) (h1 : ∀ p, p < N → P p = true → ∀ a, a < K → asg p = some a → T a = true → subB can K p T = true) (h2 : ∀ a, a < K → T a = true → r a ≤ cP asg P a N) {x : Nat} (hx : x < K) (tx : T x = true) (lx : r x < cP asg P x N) : ¬ hall N K can r P := by
  intro h
  have a1 := h T
  have a2 := sS_lt (r := r) (r' := fun a => cP asg P a N) (T := T) K hx tx lx h2
  have a3 := cS_ge (can := can) asg h1 N (Nat.le_refl N)
  have a4 : cS (fun p => P p && subB can K p T && (asg p).isSome) N ≤ cS (fun p => P p && subB can K p T) N := cS_mono N (fun p _ z => by
    have z : (P p && subB can K p T && (asg p).isSome) = true := z
    show (P p && subB can K p T) = true
    cases q : (P p && subB can K p T)
    · rw [q] at z; simp at z
    · rfl)
  omega
theorem cP_all {asg : Nat → Option Nat} {P : Nat → Bool} {a : Nat} : ∀ n, (∀ p, p < n → asg p = some a → P p = true) → cP asg P a n = cA asg a n
  | 0, _ => rfl
  | n + 1, h => by
    rw [cP, cA, cP_all n (fun p hp => h p (by omega))]
    by_cases c : asg n = some a
    · rw [if_pos ⟨h n (by omega) c, c⟩, if_pos c]
    · rw [if_neg (fun z => c z.2), if_neg c]
theorem cP_none {asg : Nat → Option Nat} {P : Nat → Bool} {a : Nat} : ∀ n, (∀ p, p < n → asg p = some a → P p = false) → cP asg P a n = 0
  | 0, _ => rfl
  | n + 1, h => by
    rw [cP, cP_none n (fun p hp => h p (by omega))]
    rw [if_neg (fun z => by rw [h n (by omega) z.2] at z; cases z.1)]
theorem cP_split {asg : Nat → Option Nat} {P : Nat → Bool} {a m : Nat} : ∀ n, m ≤ n → (∀ p, p < n → asg p = some a → (P p = true ↔ m ≤ p)) → cA asg a n = cA asg a m + cP asg P a n := by
  intro n
  induction n with
  | zero =>
    intro hn _
    have : m = 0 := by omega
    subst this; rfl
  | succ n ih =>
    intro hn h
    by_cases e : m = n + 1
    · rw [← e, cP_none m (fun p hp c => by
        cases q : P p
        · rfl
        · have := (h p (by omega) c).mp q
          omega)]; omega
    · rw [cA, cP, ih (by omega) (fun p hp => h p (by omega))]
      by_cases c : asg n = some a
      · rw [if_pos c, if_pos ⟨(h n (by omega) c).mpr (by omega), c⟩]; omega
      · rw [if_neg c, if_neg (fun z => c z.2)]; omega
theorem cA_mono {asg : Nat → Option Nat} {a m : Nat} : ∀ n, m ≤ n → cA asg a m ≤ cA asg a n
  | 0, h => by
    have : m = 0 := by omega
    subst this; exact Nat.le_refl _
  | n + 1, h => by
    by_cases e : m = n + 1
    · rw [e]; exact Nat.le_refl _
    · have := cA_mono (asg := asg) (a := a) (m := m) n (by omega)
      rw [cA]; omega
