/-! The model: who can be where; whether there is room. -/
section MROOM
variable {G : GG} {l : Launch} {d : Nat} {post : Option AVal → AS → Prop} {σ : AS} {kk nn : Nat} {N K : Nat}
/-- a set of asks as a number -/
def mk (T : Nat → Bool) : Nat → Nat
  | 0 => 0
  | k + 1 => mk T k + (if T k = true then 2 ^ k else 0)
theorem mk_lt {T : Nat → Bool} : ∀ k, mk T k < 2 ^ k
  | 0 => (by decide : 0 < 1)
  | k + 1 => by
    have := mk_lt (T := T) k
    rw [mk, Nat.pow_succ]
    split <;> omega
theorem mk_bit {T : Nat → Bool} : ∀ k a, a < k → (mk T k).testBit a = T a
  | 0, a, h => absurd h (Nat.not_lt_zero a)
  | k + 1, a, h => by
    have lt := mk_lt (T := T) k
    rw [mk]
    by_cases e : a = k
    · subst e
      cases c : T a
      · rw [if_neg (by decide), Nat.add_zero]; exact Nat.testBit_lt_two_pow lt
      · rw [if_pos rfl, Nat.add_comm, Nat.testBit_two_pow_add_eq, Nat.testBit_lt_two_pow lt]; rfl
    · have ih := mk_bit (T := T) k a (by omega)
      cases c : T k
      · rw [if_neg (by decide), Nat.add_zero]; exact ih
      · rw [if_pos rfl, Nat.add_comm, Nat.testBit_two_pow_add_gt (by omega)]; exact ih
theorem pow6 {k : Nat} (h : k ≤ 6) : 2 ^ k ≤ 64 := show 2 ^ k ≤ 2 ^ 6 from Nat.pow_le_pow_right (by decide) h
theorem bit_or : ∀ a, a < 6 → ∀ m, m < 2 ^ a → nI m ||| (1 <<< (nI a &&& 31)) = nI (m + 2 ^ a) := by decide +kernel
theorem bit_at : ∀ s, s < 64 → ∀ a, a < 6 → (((nI s) >>> (nI a &&& 31)) &&& 1 = 1 ↔ s.testBit a = true) := by decide +kernel
theorem bit_jb {s a : Nat} (hs : s < 64) (ha : a < 6) : jb (nI s) (nI a) = s.testBit a := by
  unfold jb
  have := bit_at s hs a ha
  cases c : s.testBit a
  · rw [if_neg (fun q => by rw [this.mp q] at c; cases c)]
  · rw [if_pos (this.mpr c)]
theorem bit_sub0 : ∀ m, m < 64 → ∀ s, s < 64 → ((nI m &&& (nI s ^^^ (-1))) = 0 ↔ m &&& (63 - s) = 0) := by decide +kernel
theorem bit_sub1 : ∀ m, m < 64 → ∀ s, s < 64 → (m &&& (63 - s) = 0 ↔ ((m.testBit 0 = true → s.testBit 0 = true) ∧ (m.testBit 1 = true → s.testBit 1 = true) ∧ (m.testBit 2 = true → s.testBit 2 = true) ∧ (m.testBit 3 = true → s.testBit 3 = true) ∧ (m.testBit 4 = true → s.testBit 4 = true) ∧ (m.testBit 5 = true → s.testBit 5 = true))) := by decide +kernel
theorem bit_sub {m s : Nat} (hm : m < 64) (hs : s < 64) : (nI m &&& (nI s ^^^ (-1))) = 0 ↔ ∀ a, a < 6 → m.testBit a = true → s.testBit a = true := by
  rw [bit_sub0 m hm s hs, bit_sub1 m hm s hs]
  constructor
  · rintro ⟨h0, h1, h2, h3, h4, h5⟩ a ha
    match a, ha with
    | 0, _ => exact h0
    | 1, _ => exact h1
    | 2, _ => exact h2
    | 3, _ => exact h3
    | 4, _ => exact h4
    | 5, _ => exact h5
    | a + 6, h => exact absurd h (by omega)
  · intro h
    exact ⟨h 0 (by decide), h 1 (by decide), h 2 (by decide), h 3 (by decide), h 4 (by decide), h 5 (by decide)⟩
/-- the model holds who can be where -/
def MayM (σ : AS) (N K : Nat) (can : Nat → Nat → Bool) : Prop := ∀ p, p < N → gA σ 26 20 p = nI (mk (can p) K)
theorem may_bit {can : Nat → Nat → Bool} (hM : MayM σ N K can) (hK : K ≤ 6) {p a : Nat} (hp : p < N) (ha : a < 6) : (((gA σ 26 20 p) >>> (nI a &&& 31)) &&& 1 = 1 ↔ (a < K ∧ can p a = true)) := by
  have l1 := mk_lt (T := can p) K
  have l2 := pow6 hK
  rw [hM p hp, bit_at _ (by omega) a ha]
  by_cases h : a < K
  · rw [mk_bit K a h]; exact ⟨fun q => ⟨h, q⟩, fun q => q.2⟩
  · have : (mk (can p) K).testBit a = false := Nat.testBit_lt_two_pow (Nat.lt_of_lt_of_le l1 (Nat.pow_le_pow_right (by decide) (by omega)))
    rw [this]
    exact ⟨fun q => (by cases q), fun q => absurd q.1 h⟩
/-- what canBe needs of the state, for all people and asks, and what it says -/
def CanR (σ : AS) (N K : Nat) (can : Nat → Nat → Bool) : Prop := ∃ n b F, ∀ p, p < N → ∀ a, a < K → ∃ i g, TxtA σ n b a i ∧ PerM σ p F g ∧ (rdE n b i).1.1 = 0 ∧ canM σ g (rdE n b i).2 p a = can p a
def PR : Nat → Prop := fun f => 19 ≤ f ∧ f ≤ 28 ∧ f ≠ 26
theorem CanR.keep {R : Prop} {P : Nat → Prop} {Q : Nat → Nat → Prop} {σ1 : AS} {can : Nat → Nat → Bool} (h : CanR σ N K can) (Z : MZ R P Q σ σ1) (p12 : ¬ P 12) (p31 : ¬ P 31) (p2 : ¬ P 2) (q22 : ¬ Q 22 1) (q21 : ¬ Q 21 0) (q26 : ∀ a, (a ≤ 3 ∨ a = 6 ∨ a = 8 ∨ a = 9 ∨ a = 11 ∨ a = 14) → ¬ Q 26 a) : CanR σ1 N K can := by
  obtain ⟨n, b, F, h⟩ := h
  refine ⟨n, b, F, fun p hp a ha => ?_⟩
  obtain ⟨i, g, h1, h2, h3, h4⟩ := h p hp a ha
  refine ⟨i, g, h1.keep Z p31 (q26 14 (by omega)) q22, h2.keep Z p12 (fun a ha => q26 a (by omega)), h3, ?_⟩
  rw [← h4]
  unfold canM
  rw [Z.2.2.2.2.2 21 0 p (by decide) q21, Z.2.2.2.2.1 2 0 p2, Z.2.2.2.2.2 26 11 a (by decide) (q26 11 (by omega)), Z.2.2.2.2.2 26 6 p (by decide) (q26 6 (by omega))]
def QR : Nat → Nat → Prop := fun c a => c = 26 ∧ a = 20
theorem m_reckons {can : Nat → Nat → Bool} (hS : St σ) (hN : N ≤ 40) (hK : K ≤ 6) (h1' : gI σ 13 1 0 = nI N) (h29 : gI σ 13 29 0 = nI K) (hC : CanR σ N K can)
    (h : ∀ σ', MZ True PR QR σ σ' → MayM σ' N K can → post none σ') : AMet G l M_X12_reckons (d + 34) 0 0 [xR (some (13, 0))] σ post := by
  have keep : ∀ {σ1 : AS}, MZ True PR QR σ σ1 → CanR σ1 N K can := fun Z => hC.keep Z (fun q => by have := q.1; omega) (fun q => by have := q.2; omega) (fun q => by have := q.1; omega) (fun q => by have := q.1; omega) (fun q => by have := q.1; omega) (fun a ha q => by have := q.2; omega)
  have outer : ∀ (f p : Nat) (σ1 : AS), N - p = f → p ≤ N → MZ True PR QR σ σ1 → (∀ x, x < p → gA σ1 26 20 x = nI (mk (can x) K)) → AW G l M_X12_reckons (d + 34) post σ1 0 0 2 [some (xR (some (13, 0))), some (xI (nI p)), none] [] := by
    intro f
    induction f with
    | zero =>
      intro p σ1 hf hp Z B
      have e : p = N := by omega
      subst e
      have e1 : gI σ1 13 1 0 = nI p := (Z.2.2.2.2.1 1 0 (fun q => by have := q.1; omega)).trans h1'
      exact vc_X12_reckons_2 (d := d + 33) (Z.st hS) ⟨fun _ => h σ1 Z B, fun c => absurd (by rw [e1]; exact nI_le (Nat.le_refl _) (by omega)) c⟩
    | succ f ih =>
      intro p σ1 hf hp Z B
      have hpN : p < N := by omega
      have vp : vp_in (nI p) 40 := vp_in_nI (by omega) (by decide)
      have e1 : gI σ1 13 1 0 = nI N := (Z.2.2.2.2.1 1 0 (fun q => by have := q.1; omega)).trans h1'
      have inner : ∀ (f a : Nat) (σ2 : AS), K - a = f → a ≤ K → MZ True PR QR σ σ2 → (∀ x, x < p → gA σ2 26 20 x = nI (mk (can x) K)) → gA σ2 26 20 p = nI (mk (can p) a) → AW G l M_X12_reckons (d + 34) post σ2 0 0 19 [some (xR (some (13, 0))), some (xI (nI p)), some (xI (nI a))] [] := by
        intro f
        induction f with
        | zero =>
          intro a σ2 hf2 ha Z2 B2 C2
          have e : a = K := by omega
          subst e
          have e29 : gI σ2 13 29 0 = nI a := (Z2.2.2.2.2.1 29 0 (fun q => by have := q.2; omega)).trans h29
          refine vc_X12_reckons_19 (d := d + 33) ⟨fun _ => ?_, fun c => absurd (by rw [e29]; exact nI_le (Nat.le_refl _) (by omega)) c⟩
          rw [nI_1]
          refine ih (p + 1) σ2 (by omega) (by omega) Z2 (fun x hx => ?_)
          by_cases e : x = p
          · rw [e]; exact C2
          · exact B2 x (by omega)
        | succ f ih2 =>
          intro a σ2 hf2 ha Z2 B2 C2
          have haK : a < K := by omega
          have e29 : gI σ2 13 29 0 = nI K := (Z2.2.2.2.2.1 29 0 (fun q => by have := q.2; omega)).trans h29
          obtain ⟨n, b, F, hh⟩ := keep Z2
          obtain ⟨i, g, g1, g2, g3, g4⟩ := hh p hpN a haK
          refine vc_X12_reckons_19 (d := d + 33) ⟨fun c => absurd ((nI_leI (a := K) (b := a) (by omega) (by omega)).mp (by rw [e29] at c; exact c)) (by omega), fun _ => m_canBe (d := d) (Z2.st hS) (by omega) (by omega) g1 g2 g3 (fun σ3 Z3 => ?_)⟩
          rw [g4]
          have Z4 : MZ True PR QR σ σ3 := Z2.tr (Z3.mono id (fun f q => q) (fun c a q => False.elim q))
          have a20 : ∀ x, gA σ3 26 20 x = gA σ2 26 20 x := fun x => Z3.2.2.2.2.2 26 20 x (by decide) (fun q => q)
          have lt := mk_lt (T := can p) a
          have l2 := pow6 hK
          have em : mk (can p) (a + 1) = mk (can p) a + (if can p a = true then 2 ^ a else 0) := rfl
          refine ⟨Z4.st hS, fun c => ?_, fun c => ⟨vp, vp, ?_⟩⟩
          · rw [nI_1]
            rw [if_neg (by rw [bI_eq.mp c]; decide), Nat.add_zero] at em
            exact ih2 (a + 1) σ3 (by omega) (by omega) Z4 (fun x hx => (a20 x).trans (B2 x hx)) (by rw [em]; exact (a20 p).trans C2)
          · rw [if_pos (bI_ne.mp c)] at em
            rw [nI_clamp (by omega), nI_1, a20 p, C2, bit_or a (by omega) _ lt, ← em]
            refine ih2 (a + 1) _ (by omega) (by omega) (Z4.setA (by decide) ⟨rfl, rfl⟩) (fun x hx => ?_) gA_self
            rw [gA_o (by omega), a20 x]; exact B2 x hx
      refine vc_X12_reckons_2 (d := d + 33) (Z.st hS) ⟨fun c => absurd ((nI_leI (a := N) (b := p) (by omega) (by omega)).mp (by rw [e1] at c; exact c)) (by omega), fun _ => ⟨vp, ?_⟩⟩
      rw [nI_clamp (by omega)]
      have z := inner K 0 (sA σ1 26 20 p 0) rfl (Nat.zero_le _) (Z.setA (by decide) ⟨rfl, rfl⟩) (fun x hx => by rw [gA_o (by omega)]; exact B x hx) gA_self
      rw [nI_0] at z
      exact z
  refine AMet.of rfl (Nat.le_of_ble_eq_true rfl) (vc_X12_reckons (d := d + 33) ?_)
  have z := outer N 0 σ rfl (Nat.zero_le _) MZ.rf (fun x hx => absurd hx (Nat.not_lt_zero x))
  rw [nI_0] at z
  exact z
theorem cS_congr {P Q : Nat → Bool} : ∀ n, (∀ p, p < n → P p = Q p) → cS P n = cS Q n
  | 0, _ => rfl
  | n + 1, h => by rw [cS, cS, cS_congr n (fun p hp => h p (by omega)), h n (by omega)]
theorem sS_congrT {r : Nat → Nat} {T U : Nat → Bool} : ∀ k, (∀ a, a < k → T a = U a) → sS r T k = sS r U k
  | 0, _ => rfl
  | k + 1, h => by rw [sS, sS, sS_congrT k (fun a ha => h a (by omega)), h k (by omega)]
theorem subB_congr {can : Nat → Nat → Bool} {p : Nat} {T U : Nat → Bool} (h : ∀ a, a < K → T a = U a) : subB can K p T = subB can K p U := by
  unfold subB
  congr 1
  exact propext ⟨fun q a ha c => by rw [← h a ha]; exact q a ha c, fun q a ha c => by rw [h a ha]; exact q a ha c⟩
/-- all sets are those that numbers tell -/
theorem hall_bits {can : Nat → Nat → Bool} {r : Nat → Nat} {P : Nat → Bool} : hall N K can r P ↔ ∀ s, s < 2 ^ K → cS (fun p => P p && subB can K p (fun a => s.testBit a)) N ≤ sS r (fun a => s.testBit a) K := by
  constructor
  · intro h s _
    exact h _
  · intro h T
    have k := h (mk T K) (mk_lt K)
    have e : ∀ a, a < K → (mk T K).testBit a = T a := fun a ha => mk_bit K a ha
    rw [sS_congrT K e, cS_congr (Q := fun p => P p && subB can K p T) N (fun p _ => by rw [subB_congr e])] at k
    exact k
theorem cS_le {P : Nat → Bool} : ∀ n, cS P n ≤ n
  | 0 => Nat.le_refl _
  | n + 1 => by
    have := cS_le (P := P) n
    rw [cS]; split <;> omega
theorem sS_le8 {r : Nat → Nat} {T : Nat → Bool} : ∀ k, (∀ a, a < k → r a ≤ 8) → sS r T k ≤ 8 * k
  | 0, _ => Nat.le_refl _
  | k + 1, h => by
    have := sS_le8 (r := r) (T := T) k (fun a ha => h a (by omega))
    have := h k (by omega)
    rw [sS]; split <;> omega
theorem m_isRoom {can : Nat → Nat → Bool} {r : Nat → Nat} {P : Nat → Bool} (hS : St σ) (hN : N ≤ 40) (hK : K ≤ 6) (h1' : gI σ 13 1 0 = nI N) (h29 : gI σ 13 29 0 = nI K) (hM : MayM σ N K can) (hr : ∀ a, a < K → gA σ 26 21 a = nI (r a) ∧ r a ≤ 8) (hP : ∀ p, p < N → gA σ 21 1 p = bI (P p))
    (h : post (some (xI (bI (hallD N K can r P)))) σ) : AMet G l M_X12_isRoom d 0 0 [xR (some (13, 0))] σ post := by
  have l2 := pow6 hK
  have sh : ∀ K, K ≤ 6 → (1 <<< (nI K &&& 31) : Int32) = nI (2 ^ K) := by decide +kernel
  have outer : ∀ (f s : Nat), 2 ^ K - s = f → s ≤ 2 ^ K → (∀ t, t < s → cS (fun p => P p && subB can K p (fun a => t.testBit a)) N ≤ sS r (fun a => t.testBit a) K) → AW G l M_X12_isRoom d post σ 0 0 2 [some (xR (some (13, 0))), some (xI (nI s)), none, none, none] [] := by
    intro f
    induction f with
    | zero =>
      intro s hf hs B
      have e : s = 2 ^ K := by omega
      have ht : hallD N K can r P = true := hallD_iff.mpr (hall_bits.mpr (fun t ht => B t (by omega)))
      rw [ht] at h
      refine vc_X12_isRoom_2 ⟨fun _ => h, fun c => absurd ?_ c⟩
      rw [h29, sh K hK]
      exact nI_le (by omega) (by omega)
    | succ f ih =>
      intro s hf hs B
      have hsK : s < 2 ^ K := by omega
      have alone : ∀ (f p : Nat), N - p = f → p ≤ N → AW G l M_X12_isRoom d post σ 0 0 53 [some (xR (some (13, 0))), some (xI (nI s)), some (xI (nI (sS r (fun a => s.testBit a) K))), some (xI (nI (cS (fun p => P p && subB can K p (fun a => s.testBit a)) p))), some (xI (nI p))] [] := by
        intro f
        have ls := sS_le8 (r := r) (T := fun a => s.testBit a) K (fun a ha => (hr a ha).2)
        induction f with
        | zero =>
          intro p hf hp
          have e : p = N := by omega
          subst e
          have lc := cS_le (P := fun p => P p && subB can K p (fun a => s.testBit a)) p
          refine vc_X12_isRoom_53 hS ⟨fun _ => ⟨fun c => ?_, fun c => ?_⟩, fun c => absurd (by rw [h1']; exact nI_le (Nat.le_refl _) (by omega)) c⟩
          · rw [nI_1]
            have c' := (nI_leI (by omega) (by omega)).mp c
            refine ih (s + 1) (by omega) (by omega) (fun t ht => ?_)
            by_cases e : t = s
            · rw [e]; exact c'
            · exact B t (by omega)
          · have hf' : hallD p K can r P = false := by
              cases z : hallD p K can r P
              · rfl
              · exact absurd (nI_le (hall_bits.mp (hallD_iff.mp z) s hsK) (by omega)) c
            rw [hf'] at h
            exact h
        | succ f ih2 =>
          intro p hf hp
          have hpN : p < N := by omega
          have vp : vp_in (nI p) 40 := vp_in_nI (by omega) (by decide)
          have z := ih2 (p + 1) (by omega) (by omega)
          have lm := mk_lt (T := can p) K
          rw [cS] at z
          refine vc_X12_isRoom_53 hS ⟨fun c => absurd ((nI_leI (a := N) (b := p) (by omega) (by omega)).mp (by rw [h1'] at c; exact c)) (by omega), fun _ => ⟨vp, ?_⟩⟩
          rw [nI_clamp (by omega), hP p hpN, hM p hpN, nI_1, nI_1]
          refine ⟨fun c => ?_, fun c => ⟨vp, fun c2 => ?_, fun c2 => ?_⟩⟩
          · rw [if_neg (by rw [bI_eq.mp c, Bool.false_and]; decide)] at z; exact z
          · rw [if_neg (fun q => c2 ?_)] at z
            · exact z
            · rw [bit_sub (by omega) (by omega)]
              have q2 := of_decide_eq_true (Bool.and_eq_true_iff.mp q).2
              intro a ha ta
              by_cases hk : a < K
              · rw [mk_bit K a hk] at ta; exact q2 a hk ta
              · rw [Nat.testBit_lt_two_pow (Nat.lt_of_lt_of_le lm (Nat.pow_le_pow_right (by decide) (by omega)))] at ta; cases ta
          · rw [if_pos ?_] at z
            · exact z
            · rw [bit_sub (by omega) (by omega)] at c2
              refine Bool.and_eq_true_iff.mpr ⟨bI_ne.mp c, decide_eq_true (fun a ha ca => c2 a (by omega) ?_)⟩
              rw [mk_bit K a ha]; exact ca
      have places : ∀ (f a : Nat), K - a = f → a ≤ K → AW G l M_X12_isRoom d post σ 0 0 16 [some (xR (some (13, 0))), some (xI (nI s)), some (xI (nI (sS r (fun a => s.testBit a) a))), some (xI (nI a)), none] [] := by
        intro f
        induction f with
        | zero =>
          intro a hf ha
          have e : a = K := by omega
          subst e
          refine vc_X12_isRoom_16 hS ⟨fun _ => ?_, fun c => absurd (by rw [h29]; exact nI_le (Nat.le_refl _) (by omega)) c⟩
          have z := alone N 0 rfl (Nat.zero_le _)
          rw [show cS (fun p => P p && subB can a p (fun a => s.testBit a)) 0 = 0 from rfl, nI_0] at z
          exact z
        | succ f ih2 =>
          intro a hf ha
          have haK : a < K := by omega
          have z := ih2 (a + 1) (by omega) (by omega)
          rw [sS] at z
          refine vc_X12_isRoom_16 hS ⟨fun c => absurd ((nI_leI (a := K) (b := a) (by omega) (by omega)).mp (by rw [h29] at c; exact c)) (by omega), fun _ => ?_⟩
          rw [nI_clamp (by omega), (hr a haK).1, nI_1, nI_add]
          refine ⟨fun c => ?_, fun c => ⟨vp_in_nI (by omega) (by decide), ?_⟩⟩
          · rw [if_neg (fun q => c ((bit_at s (by omega) a (by omega)).mpr q))] at z; exact z
          · rw [if_pos ((bit_at s (by omega) a (by omega)).mp c)] at z; exact z
      refine vc_X12_isRoom_2 ⟨fun c => absurd ((nI_leI (a := 2 ^ K) (b := s) (by omega) (by omega)).mp (by rw [h29, sh K hK] at c; exact c)) (by omega), fun _ => ?_⟩
      have z := places K 0 rfl (Nat.zero_le _)
      rw [show sS r (fun a => s.testBit a) 0 = 0 from rfl, nI_0] at z
      exact z
  refine AMet.of rfl (Nat.le_of_ble_eq_true rfl) (vc_X12_isRoom ?_)
  have z := outer (2 ^ K) 0 rfl (Nat.zero_le _) (fun t ht => absurd ht (Nat.not_lt_zero t))
  rw [nI_0] at z
  exact z
end MROOM
