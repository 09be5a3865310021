/-! The model lays the plan, whole. -/
section MLAY2
variable {G : GG} {l : Launch} {d : Nat} {post : Option AVal → AS → Prop} {σ : AS} {kk nn : Nat} {N K : Nat}
theorem cS_cAll {W : Nat → Bool} {fin : Nat → Option Nat} : ∀ n, (∀ p, p < n → (fin p ≠ none ↔ W p = true)) → cS W n = cAll fin n
  | 0, _ => rfl
  | n + 1, h => by
    rw [cS, cAll, cS_cAll n (fun p hp => h p (by omega))]
    have k := h n (by omega)
    by_cases c : fin n = none
    · rw [if_pos c, if_neg (fun z => k.mpr z c)]
    · rw [if_neg c, if_pos (k.mp c)]
theorem cS_none : ∀ n, cS (fun _ => false) n = 0
  | 0 => rfl
  | n + 1 => by rw [cS, cS_none n]; rfl
theorem m_lay1 {can : Nat → Nat → Bool} {w turn : Nat → Nat} {fin : Nat → Option Nat} (hN : N ≤ 40) (hK : K ≤ 6) (h1' : gI σ 13 1 0 = nI N) (h29 : gI σ 13 29 0 = nI K) (hS : St σ) (hw : ∀ a, a < K → w a ≤ 8) (ht : ∀ p, p < N → gA σ 26 5 p = nI (turn p) ∧ turn p ≤ 60) (hF : ∀ p, p < N → FinAt N K can w (WL turn N K can w (61 * N)) fin p) (hW : ∀ p, p < N → (fin p ≠ none ↔ WL turn N K can w (61 * N) p = true))
    (h : ∀ σ', LayM σ σ' N K can → (∀ p, p < N → gA σ' 26 7 p = rI (fin p)) → post (some (xI (nI (cAll fin N)))) σ') :
    ∀ (f k i : Nat) (σ1 : AS), N - k = f → k ≤ N → LayM σ σ1 N K can → (∀ p, p < N → gA σ1 21 2 p = bI (decide (turn p * N + p < i))) → (∀ p, p < N → gA σ1 21 1 p = bI (WL turn N K can w i p)) → i ≤ 61 * N → cS (fun p => decide (turn p * N + p < i)) N = k → (∀ a, a < K → gA σ1 26 21 a = nI (w a)) → (∀ q, q < N → gA σ1 26 7 q = -1) → AW G l M_X12_lay (d + 1) post σ1 kk nn 87 [some (xR (some (13, 0))), some (xI (nI (cS (WL turn N K can w i) N))), some (xI (nI k)), none, none] [] := by
  intro f
  induction f with
  | zero =>
    intro k i σ1 hf hk L ha hwn hi hc hr h7
    have e : k = N := by omega
    subst e
    refine vc_X12_lay_87 (d := d) ⟨fun _ => ?_, fun c => absurd (by rw [L.one, h1']; exact nI_le (Nat.le_refl _) (by omega)) c⟩
    have eW : WL turn k K can w (61 * k) = WL turn k K can w i := by
      rcases Nat.eq_zero_or_pos k with z | z
      · subst z
        have : i = 0 := by omega
        rw [this]
      · exact WL_const z (61 * k) hi (fun q hq => Or.inl (of_decide_eq_true (cS_full k hc q hq)))
    have ec : cS (WL turn k K can w i) k = cAll fin k := by rw [← eW]; exact cS_cAll k hW
    rw [ec]
    have z := m_lay2 (G := G) (l := l) (d := d) (kk := kk) (nn := nn) (n := nI (cAll fin k)) hN hK h1' h29 hS hw hF h k 0 σ1 rfl (Nat.zero_le _) L (fun q hq => absurd hq (Nat.not_lt_zero q)) (fun q _ hq => h7 q hq) (fun q hq => by rw [hwn q hq, eW, decide_eq_true (Nat.zero_le q), Bool.and_true]) (fun a ha => ⟨by rw [hr a ha]; rfl, Nat.zero_le _⟩)
    rw [nI_0] at z
    exact z
  | succ f ih =>
    intro k i σ1 hf hk L ha hwn hi hc hr h7
    have hkN : k < N := by omega
    have t5 : ∀ p, p < N → gA σ1 26 5 p = nI (turn p) ∧ turn p ≤ 60 := fun p hp => ⟨(L.1.2.2.2.2.2 26 5 p (by decide) (fun q => by rcases q with q | q <;> omega)).trans (ht p hp).1, (ht p hp).2⟩
    obtain ⟨p0, hp0, ep0⟩ := cS_lt' (P := fun p => decide (turn p * N + p < i)) N (by rw [hc]; exact hkN)
    refine vc_X12_lay_87 (d := d) ⟨fun c => absurd ((nI_leI (a := N) (b := k) (by omega) (by omega)).mp (by rw [L.one, h1'] at c; exact c)) (by omega), fun _ => m_first (A := fun p => decide (turn p * N + p < i)) (turn := turn) (L.1.st hS) hN (L.one.trans h1') ha t5 ⟨p0, hp0, ep0⟩ (fun p hp ap lp => ?_)⟩
    have ap' : ¬ turn p * N + p < i := of_decide_eq_false ap
    have vp : vp_in (nI p) 40 := vp_in_nI (by omega) (by decide)
    have Wp : WL turn N K can w i p = false := by
      cases z : WL turn N K can w i p
      · rfl
      · exact absurd (WL_asked i p z) ap'
    have order : ∀ q, q < N → turn q * N + q < i ∨ turn p * N + p ≤ turn q * N + q := by
      intro q hq
      by_cases c : turn q * N + q < i
      · exact Or.inl c
      · rcases lp q hq (decide_eq_false c) with z | z
        · have m1 : (turn p + 1) * N ≤ turn q * N := Nat.mul_le_mul_right N z
          rw [Nat.add_mul, Nat.one_mul] at m1
          exact Or.inr (by omega)
        · rw [z.1]; exact Or.inr (by omega)
    have key : ∀ q, q < N → (turn q * N + q < turn p * N + p + 1 ↔ turn q * N + q < i ∨ q = p) := by
      intro q hq
      constructor
      · intro z
        rcases order q hq with o | o
        · exact Or.inl o
        · by_cases c : turn q * N + q < i
          · exact Or.inl c
          · rcases lp q hq (decide_eq_false c) with y | y
            · exfalso
              have m1 : (turn p + 1) * N ≤ turn q * N := Nat.mul_le_mul_right N y
              rw [Nat.add_mul, Nat.one_mul] at m1
              omega
            · rw [y.1] at z; exact Or.inr (by omega)
      · rintro (z | z)
        · omega
        · rw [z]; omega
    have W1 : WL turn N K can w (turn p * N + p) = WL turn N K can w i := WL_const (by omega) _ (by omega) order
    have W2 : WL turn N K can w (turn p * N + p + 1) = stepW N K can w (WL turn N K can w i) p := by rw [WL_at hp, if_pos rfl, W1]
    have i61 : turn p * N + p + 1 ≤ 61 * N := by
      have m1 : turn p * N ≤ 60 * N := Nat.mul_le_mul_right N (t5 p hp).2
      omega
    dsimp only [retI]
    rw [nI_clamp (by omega), nar1]
    refine ⟨L.1.st hS, vp, vp, ?_⟩
    have L2 : LayM σ (sA (sA σ1 21 2 p 1) 21 1 p 1) N K can := (L.setA (Or.inr ⟨rfl, Or.inr rfl⟩)).setA (Or.inr ⟨rfl, Or.inl rfl⟩)
    refine m_isRoom (N := N) (K := K) (can := can) (r := w) (P := fun x => WL turn N K can w i x || decide (x = p)) (L2.1.st hS) hN hK (L2.one.trans h1') (L2.k.trans h29) L2.2.1 (fun a haK => ⟨by rw [gA_o (by omega), gA_o (by omega)]; exact hr a haK, hw a haK⟩) (fun q hq => ?_) ?_
    · by_cases e : q = p
      · subst e; rw [gA_self, decide_eq_true rfl, Bool.or_true]; rfl
      · rw [gA_o (fun z => e z.2.2), gA_o (by omega), decide_eq_false e, Bool.or_false]; exact hwn q hq
    · have nb : ∀ x : Bool, vp_nar .boolean (bI x) = bI x := fun x => nar_bI
      have L3 : LayM σ (sA (sA (sA σ1 21 2 p 1) 21 1 p 1) 21 1 p (bI (hallD N K can w (fun x => WL turn N K can w i x || decide (x = p))))) N K can := L2.setA (Or.inr ⟨rfl, Or.inl rfl⟩)
      have w3 : ∀ q, q < N → gA (sA (sA (sA σ1 21 2 p 1) 21 1 p 1) 21 1 p (bI (hallD N K can w (fun x => WL turn N K can w i x || decide (x = p))))) 21 1 q = bI (WL turn N K can w (turn p * N + p + 1) q) := by
        intro q hq
        rw [W2]
        unfold stepW
        by_cases e : q = p
        · subst e; rw [gA_self, Wp, decide_eq_true rfl, Bool.false_or, Bool.true_and]
        · rw [gA_o (fun z => e z.2.2), gA_o (fun z => e z.2.2), gA_o (by omega), decide_eq_false e, Bool.false_and, Bool.or_false]; exact hwn q hq
      have a3 : ∀ q, q < N → gA (sA (sA (sA σ1 21 2 p 1) 21 1 p 1) 21 1 p (bI (hallD N K can w (fun x => WL turn N K can w i x || decide (x = p))))) 21 2 q = bI (decide (turn q * N + q < turn p * N + p + 1)) := by
        intro q hq
        rw [gA_o (by omega), gA_o (by omega)]
        by_cases e : q = p
        · subst e; rw [gA_self, decide_eq_true (by omega)]; rfl
        · rw [gA_o (fun z => e z.2.2), ha q hq]
          have : decide (turn q * N + q < i) = decide (turn q * N + q < turn p * N + p + 1) := by
            have i1 : turn q * N + q < turn p * N + p + 1 ↔ turn q * N + q < i := ⟨fun z => ((key q hq).mp z).resolve_right e, fun z => (key q hq).mpr (Or.inl z)⟩
            simp only [i1]
          rw [this]
      have c3 : cS (fun q => decide (turn q * N + q < turn p * N + p + 1)) N = k + 1 := by
        rw [cS_congr (Q := fun q => decide (turn q * N + q < i) || decide (q = p)) N (fun q hq => by
          have i1 := key q hq
          by_cases z : turn q * N + q < i
          · rw [decide_eq_true z, decide_eq_true (i1.mpr (Or.inl z))]; rfl
          · by_cases y : q = p
            · rw [decide_eq_true y, decide_eq_true (i1.mpr (Or.inr y)), Bool.or_true]
            · rw [decide_eq_false z, decide_eq_false y, decide_eq_false (fun x => (i1.mp x).elim z y)]; rfl)]
        rw [cS_at (P := fun q => decide (turn q * N + q < i)) (p := p) (fun q hq => by rw [decide_eq_false hq, Bool.or_false]) (decide_eq_false ap') N, hc, if_pos ⟨hp, by rw [decide_eq_true (show p = p from rfl), Bool.or_true]⟩]
      have n3 : cS (WL turn N K can w (turn p * N + p + 1)) N = cS (WL turn N K can w i) N + (if hallD N K can w (fun x => WL turn N K can w i x || decide (x = p)) = true then 1 else 0) := by
        rw [W2, cS_at (P := WL turn N K can w i) (p := p) (fun q hq => by unfold stepW; rw [decide_eq_false hq, Bool.false_and, Bool.or_false]) Wp N]
        have : stepW N K can w (WL turn N K can w i) p p = hallD N K can w (fun x => WL turn N K can w i x || decide (x = p)) := by
          unfold stepW; rw [Wp, decide_eq_true rfl, Bool.false_or, Bool.true_and]
        rw [this]
        congr 1
        by_cases c : hallD N K can w (fun x => WL turn N K can w i x || decide (x = p)) = true
        · rw [if_pos c, if_pos ⟨hp, c⟩]
        · rw [if_neg c, if_neg (fun z => c z.2)]
      have go := ih (k + 1) (turn p * N + p + 1) _ (by omega) (by omega) L3 a3 w3 i61 c3 (fun a haK => by rw [gA_o (by omega), gA_o (by omega), gA_o (by omega)]; exact hr a haK) (fun q hq => by rw [gA_o (by omega), gA_o (by omega), gA_o (by omega)]; exact h7 q hq)
      refine ⟨L2.1.st hS, vp, vp, ?_⟩
      rw [nb, nI_1, nI_1, gA_self]
      refine ⟨fun c => ?_, fun c => ?_⟩
      · rw [n3, if_neg (by rw [bI_eq.mp c]; decide), Nat.add_zero] at go
        exact go
      · rw [n3, if_pos (bI_ne.mp c)] at go
        exact go
theorem m_lay {can : Nat → Nat → Bool} {w turn : Nat → Nat} {fin : Nat → Option Nat} (hS : St σ) (hN : N ≤ 40) (hK : K ≤ 6) (h1' : gI σ 13 1 0 = nI N) (h29 : gI σ 13 29 0 = nI K) (hC : CanR σ N K can) (hw : ∀ a, a < K → gA σ 26 13 a = nI (w a) ∧ w a ≤ 8) (ht : ∀ p, p < N → gA σ 26 5 p = nI (turn p) ∧ turn p ≤ 60)
    (h0 : K = 0 → post (some (xI (-1))) (T0 σ))
    (h1 : K ≠ 0 → (∀ p, p < N → FinAt N K can w (WL turn N K can w (61 * N)) fin p) ∧ (∀ p, p < N → (fin p ≠ none ↔ WL turn N K can w (61 * N) p = true)) ∧ ∀ σ', MZ True PL QL σ σ' → gI σ' 13 0 0 = 0 → (∀ p, p < N → gA σ' 26 7 p = rI (fin p)) → post (some (xI (nI (cAll fin N)))) σ') : AMet G l M_X12_lay (d + 35) 0 0 [xR (some (13, 0))] σ post := by
  refine AMet.of rfl (Nat.le_of_ble_eq_true rfl) (vc_X12_lay (d := d + 34) ⟨fun c => ?_, fun c => ?_⟩)
  · have hK0 : K ≠ 0 := fun e => c (by rw [h29, e]; rfl)
    obtain ⟨hF, hW, hh⟩ := h1 hK0
    have Z0 : MZ True PL QL σ (T0 σ) := T0_z (Or.inl rfl)
    have C0 : CanR (T0 σ) N K can := hC.keep (R := False) (P := fun f => f = 0) (Q := fun _ _ => False) (T0_z rfl) (by decide) (by decide) (by decide) (fun q => q) (fun q => q) (fun _ _ q => q)
    refine m_reckons (σ := T0 σ) hS hN hK ((T0_f (by decide)).trans h1') ((T0_f (by decide)).trans h29) C0 (fun σ1 Z1 M1 => ?_)
    have L1 : LayM σ σ1 N K can := ⟨Z0.tr (Z1.mono id (fun f q => Or.inr ⟨q.1, q.2⟩) (fun c a q => Or.inl ⟨q.1, Or.inl q.2⟩)), M1, (Z1.2.2.2.2.1 0 0 (fun q => by have := q.1; omega)).trans T0_0⟩
    have many : ∀ (f a : Nat) (σ2 : AS), K - a = f → a ≤ K → LayM σ σ2 N K can → (∀ p, p < N → gA σ2 21 2 p = 0) → (∀ p, p < N → gA σ2 21 1 p = 0) → (∀ q, q < N → gA σ2 26 7 q = -1) → (∀ x, x < a → gA σ2 26 21 x = nI (w x)) → AW G l M_X12_lay (d + 35) post σ2 0 0 57 [some (xR (some (13, 0))), some (xI (nI a)), none, none, none] [] := by
      intro f
      induction f with
      | zero =>
        intro a σ2 hf ha L2 a2 w2 c2 r2
        have e : a = K := by omega
        subst e
        refine vc_X12_lay_57 (d := d + 34) (L2.1.st hS) ⟨fun _ => ?_, fun c => absurd (by rw [L2.k, h29]; exact nI_le (Nat.le_refl _) (by omega)) c⟩
        have z := m_lay1 (G := G) (l := l) (d := d + 34) (kk := 0) (nn := 0) hN hK h1' h29 hS (fun a ha => (hw a ha).2) ht hF hW (fun σ' L' q => hh σ' L'.1 L'.2.2 q) N 0 0 σ2 rfl (Nat.zero_le _) L2 (fun p hp => by rw [a2 p hp]; rfl) (fun p hp => by rw [w2 p hp]; rfl) (Nat.zero_le _) (by rw [cS_congr (Q := fun _ => false) N (fun p _ => decide_eq_false (Nat.not_lt_zero _))]; exact cS_none N) r2 c2
        rw [show cS (WL turn N a can w 0) N = 0 from cS_none N, nI_0] at z
        exact z
      | succ f ih =>
        intro a σ2 hf ha L2 a2 w2 c2 r2
        have haK : a < K := by omega
        have va : vp_in (nI a) 6 := vp_in_nI (by omega) (by decide)
        refine vc_X12_lay_57 (d := d + 34) (L2.1.st hS) ⟨fun c => absurd ((nI_leI (a := K) (b := a) (by omega) (by omega)).mp (by rw [L2.k, h29] at c; exact c)) (by omega), fun _ => ⟨va, va, ?_⟩⟩
        have e13 : gA σ2 26 13 a = nI (w a) := (L2.1.2.2.2.2.2 26 13 a (by decide) (fun q => by rcases q with q | q <;> omega)).trans (hw a haK).1
        rw [nI_clamp (by omega), e13, nI_1]
        refine ih (a + 1) _ (by omega) (by omega) (L2.setA (Or.inl ⟨rfl, Or.inl rfl⟩)) (fun p hp => (gA_o (by omega)).trans (a2 p hp)) (fun p hp => (gA_o (by omega)).trans (w2 p hp)) (fun p hp => (gA_o (by omega)).trans (c2 p hp)) (fun x hx => ?_)
        by_cases e : x = a
        · subst e; exact gA_self
        · rw [gA_o (fun z => e z.2.2)]; exact r2 x (by omega)
    have clear : ∀ (f p : Nat) (σ2 : AS), N - p = f → p ≤ N → LayM σ σ2 N K can → (∀ q, q < p → gA σ2 21 2 q = 0 ∧ gA σ2 21 1 q = 0 ∧ gA σ2 26 7 q = -1) → AW G l M_X12_lay (d + 35) post σ2 0 0 20 [some (xR (some (13, 0))), some (xI (nI p)), none, none, none] [] := by
      intro f
      induction f with
      | zero =>
        intro p σ2 hf hp L2 B
        have e : p = N := by omega
        subst e
        refine vc_X12_lay_20 (d := d + 34) (L2.1.st hS) ⟨fun _ => ?_, fun c => absurd (by rw [L2.one, h1']; exact nI_le (Nat.le_refl _) (by omega)) c⟩
        have z := many K 0 σ2 rfl (Nat.zero_le _) L2 (fun q hq => (B q hq).1) (fun q hq => (B q hq).2.1) (fun q hq => (B q hq).2.2) (fun x hx => absurd hx (Nat.not_lt_zero x))
        rw [nI_0] at z
        exact z
      | succ f ih =>
        intro p σ2 hf hp L2 B
        have vp : vp_in (nI p) 40 := vp_in_nI (by omega) (by decide)
        refine vc_X12_lay_20 (d := d + 34) (L2.1.st hS) ⟨fun c => absurd ((nI_leI (a := N) (b := p) (by omega) (by omega)).mp (by rw [L2.one, h1'] at c; exact c)) (by omega), fun _ => ⟨vp, vp, vp, ?_⟩⟩
        rw [nI_clamp (by omega), nar0, nI_1]
        refine ih (p + 1) _ (by omega) (by omega) (((L2.setA (Or.inr ⟨rfl, Or.inl rfl⟩)).setA (Or.inr ⟨rfl, Or.inr rfl⟩)).setA (Or.inl ⟨rfl, Or.inr rfl⟩)) (fun q hq => ?_)
        by_cases e : q = p
        · subst e
          refine ⟨(gA_o (by omega)).trans gA_self, (gA_o (by omega)).trans ((gA_o (by omega)).trans gA_self), gA_self⟩
        · obtain ⟨b1, b2, b3⟩ := B q (by omega)
          exact ⟨(gA_o (by omega)).trans ((gA_o (fun z => e z.2.2)).trans ((gA_o (by omega)).trans b1)), (gA_o (by omega)).trans ((gA_o (by omega)).trans ((gA_o (fun z => e z.2.2)).trans b2)), (gA_o (fun z => e z.2.2)).trans ((gA_o (by omega)).trans ((gA_o (by omega)).trans b3))⟩
    have z := clear N 0 σ1 rfl (Nat.zero_le _) L1 (fun q hq => absurd hq (Nat.not_lt_zero q))
    rw [nI_0] at z
    exact z
  · rw [h29] at c
    exact h0 ((nI_eq (b := 0) (by omega) (by decide)).mp c)
end MLAY2
