/-! The model lays the plan. -/
section MLAY
variable {G : GG} {l : Launch} {d : Nat} {post : Option AVal → AS → Prop} {σ : AS} {kk nn : Nat} {N K : Nat}
theorem m_first {A : Nat → Bool} {turn : Nat → Nat} (hS : St σ) (hN : N ≤ 40) (h1' : gI σ 13 1 0 = nI N) (hA : ∀ p, p < N → gA σ 21 2 p = bI (A p)) (ht : ∀ p, p < N → gA σ 26 5 p = nI (turn p) ∧ turn p ≤ 60) (hex : ∃ p, p < N ∧ A p = false)
    (h : ∀ p, p < N → A p = false → (∀ q, q < N → A q = false → turn p < turn q ∨ (turn p = turn q ∧ p ≤ q)) → post (some (xI (nI p))) σ) : AMet G l M_X12_first d 0 0 [xR (some (13, 0))] σ post := by
  have loop : ∀ (f k : Nat) (v : Int32), N - k = f → k ≤ N → ((v = -1 ∧ ∀ q, q < k → A q = true) ∨ (∃ p, p < k ∧ v = nI p ∧ A p = false ∧ ∀ q, q < k → A q = false → turn p < turn q ∨ (turn p = turn q ∧ p ≤ q))) → AW G l M_X12_first d post σ 0 0 4 [some (xR (some (13, 0))), some (xI v), some (xI (nI k))] [] := by
    intro f
    induction f with
    | zero =>
      intro k v hf hk I
      have e : k = N := by omega
      subst e
      refine vc_X12_first_4 hS ⟨fun _ => ?_, fun c => absurd (by rw [h1']; exact nI_le (Nat.le_refl _) (by omega)) c⟩
      rcases I with ⟨-, a⟩ | ⟨p, hp, ev, a, m⟩
      · obtain ⟨p, hp, e⟩ := hex
        rw [a p hp] at e; cases e
      · rw [ev]; exact h p hp a m
    | succ f ih =>
      intro k v hf hk I
      have hkN : k < N := by omega
      have vk : vp_in (nI k) 40 := vp_in_nI (by omega) (by decide)
      refine vc_X12_first_4 hS ⟨fun c => absurd ((nI_leI (a := N) (b := k) (by omega) (by omega)).mp (by rw [h1'] at c; exact c)) (by omega), fun _ => ⟨vk, ?_⟩⟩
      rw [nI_clamp (by omega), hA k hkN, nI_1]
      refine ⟨fun c => ih (k + 1) v (by omega) (by omega) ?_, fun c => ⟨fun c2 => ih (k + 1) _ (by omega) (by omega) ?_, fun c2 => ?_⟩⟩
      · have at' := bI_ne.mp c
        rcases I with ⟨e, a⟩ | ⟨p, hp, ev, a, m⟩
        · refine Or.inl ⟨e, fun q hq => ?_⟩
          by_cases w : q = k
          · rw [w]; exact at'
          · exact a q (by omega)
        · refine Or.inr ⟨p, by omega, ev, a, fun q hq z => ?_⟩
          by_cases w : q = k
          · rw [w, at'] at z; cases z
          · exact m q (by omega) z
      · have af := bI_eq.mp c
        rcases I with ⟨e, a⟩ | ⟨p, hp, ev, a, m⟩
        · refine Or.inr ⟨k, by omega, rfl, af, fun q hq z => ?_⟩
          by_cases w : q = k
          · rw [w]; exact Or.inr ⟨rfl, Nat.le_refl _⟩
          · rw [a q (by omega)] at z; cases z
        · rw [ev] at c2
          exact absurd (show nI p < 0 by rw [c2]; decide) (nI_pos (by omega))
      · have af := bI_eq.mp c
        rcases I with ⟨e, a⟩ | ⟨p, hp, ev, a, m⟩
        · exact absurd e c2
        · have tp := ht p (by omega)
          have tk := ht k hkN
          rw [ev, nI_clamp (by omega), tp.1, tk.1]
          refine ⟨vk, vp_in_nI (by omega) (by decide), fun c3 => ih (k + 1) _ (by omega) (by omega) (Or.inr ⟨p, by omega, rfl, a, fun q hq z => ?_⟩), fun c3 => ih (k + 1) _ (by omega) (by omega) (Or.inr ⟨k, by omega, rfl, af, fun q hq z => ?_⟩)⟩
          · have c4 := (nI_leI (by omega) (by omega)).mp c3
            by_cases w : q = k
            · rw [w]; omega
            · exact m q (by omega) z
          · have c4 : ¬ turn p ≤ turn k := fun q => c3 (nI_le q (by omega))
            by_cases w : q = k
            · rw [w]; exact Or.inr ⟨rfl, Nat.le_refl _⟩
            · have := m q (by omega) z; omega
  refine AMet.of rfl (Nat.le_of_ble_eq_true rfl) (vc_X12_first ?_)
  have z := loop N 0 (-1) rfl (Nat.zero_le _) (Or.inl ⟨rfl, fun q hq => absurd hq (Nat.not_lt_zero q)⟩)
  rw [nI_0] at z
  exact z
theorem WL_const {turn : Nat → Nat} {can : Nat → Nat → Bool} {w : Nat → Nat} {i : Nat} (hN : 0 < N) : ∀ j, i ≤ j → (∀ q, q < N → turn q * N + q < i ∨ j ≤ turn q * N + q) → WL turn N K can w j = WL turn N K can w i := by
  intro j
  induction j with
  | zero =>
    intro h _
    have e : i = 0 := by omega
    rw [e]
  | succ j ih =>
    intro h hq
    by_cases e : i = j + 1
    · rw [e]
    · rw [← ih (by omega) (fun q hqN => by have := hq q hqN; omega), WL, if_neg (fun z => ?_)]
      have k := hq (j % N) (Nat.mod_lt _ hN)
      have dm := Nat.div_add_mod j N
      rw [z, Nat.mul_comm (j / N) N] at k
      omega
theorem WL_asked {turn : Nat → Nat} {can : Nat → Nat → Bool} {w : Nat → Nat} : ∀ i q, WL turn N K can w i q = true → turn q * N + q < i
  | 0, q, h => by cases h
  | i + 1, q, h => by
    rw [WL] at h
    by_cases c : turn (i % N) = i / N
    · rw [if_pos c] at h
      unfold stepW at h
      rcases Bool.or_eq_true_iff.mp h with k | k
      · have := WL_asked i q k; omega
      · have e := of_decide_eq_true (Bool.and_eq_true_iff.mp k).1
        have dm := Nat.div_add_mod i N
        rw [e, c, Nat.mul_comm (i / N) N]
        omega
    · rw [if_neg c] at h
      have := WL_asked i q h; omega
theorem cS_at {P Q : Nat → Bool} {p : Nat} (hq : ∀ q, q ≠ p → Q q = P q) (hp : P p = false) : ∀ n, cS Q n = cS P n + (if p < n ∧ Q p = true then 1 else 0)
  | 0 => by rw [if_neg (by omega)]; rfl
  | n + 1 => by
    rw [cS, cS, cS_at hq hp n]
    by_cases e : n = p
    · subst e
      rw [hp, if_neg (fun z => absurd z.1 (Nat.lt_irrefl _)), if_neg (show ¬ false = true by decide)]
      cases Q n
      · rw [if_neg (by decide), if_neg (fun z => absurd z.2 (by decide))]
      · rw [if_pos rfl, if_pos ⟨by omega, rfl⟩]
    · rw [hq n e]
      have i1 : (p < n + 1 ∧ Q p = true) ↔ (p < n ∧ Q p = true) := ⟨fun z => ⟨by omega, z.2⟩, fun z => ⟨by omega, z.2⟩⟩
      simp only [i1]
      omega
theorem cS_full {P : Nat → Bool} : ∀ n, cS P n = n → ∀ p, p < n → P p = true
  | 0, _, p, h => absurd h (Nat.not_lt_zero p)
  | n + 1, h, p, hp => by
    have l1 := cS_le (P := P) n
    rw [cS] at h
    by_cases c : P n = true
    · rw [if_pos c] at h
      by_cases e : p = n
      · rw [e]; exact c
      · exact cS_full n (by omega) p (by omega)
    · rw [if_neg c] at h; omega
theorem cS_lt' {P : Nat → Bool} : ∀ n, cS P n < n → ∃ p, p < n ∧ P p = false
  | 0, h => absurd h (Nat.not_lt_zero _)
  | n + 1, h => by
    rw [cS] at h
    cases c : P n
    · exact ⟨n, by omega, c⟩
    · rw [c, if_pos rfl] at h
      obtain ⟨p, hp, e⟩ := cS_lt' (P := P) n (by omega)
      exact ⟨p, by omega, e⟩
def PL : Nat → Prop := fun f => f = 0 ∨ (19 ≤ f ∧ f ≤ 28 ∧ f ≠ 26)
def QL : Nat → Nat → Prop := fun c a => (c = 26 ∧ (a = 20 ∨ a = 21 ∨ a = 7)) ∨ (c = 21 ∧ (a = 1 ∨ a = 2))
/-- while the model lays -/
def LayM (σ σ' : AS) (N K : Nat) (can : Nat → Nat → Bool) : Prop := MZ True PL QL σ σ' ∧ MayM σ' N K can ∧ gI σ' 13 0 0 = 0
theorem LayM.one {σ1 : AS} {can : Nat → Nat → Bool} (h : LayM σ σ1 N K can) : gI σ1 13 1 0 = gI σ 13 1 0 := h.1.2.2.2.2.1 1 0 (fun q => by rcases q with q | q <;> omega)
theorem LayM.k {σ1 : AS} {can : Nat → Nat → Bool} (h : LayM σ σ1 N K can) : gI σ1 13 29 0 = gI σ 13 29 0 := h.1.2.2.2.2.1 29 0 (fun q => by rcases q with q | q <;> omega)
theorem LayM.setA {σ1 : AS} {can : Nat → Nat → Bool} {c a i : Nat} {v : Int32} (h : LayM σ σ1 N K can) (hc : (c = 26 ∧ (a = 21 ∨ a = 7)) ∨ (c = 21 ∧ (a = 1 ∨ a = 2))) : LayM σ (sA σ1 c a i v) N K can := ⟨h.1.setA (by omega) (hc.elim (fun q => Or.inl ⟨q.1, by omega⟩) (fun q => Or.inr ⟨q.1, by omega⟩)), fun p hp => (gA_o (by omega)).trans (h.2.1 p hp), h.2.2⟩
theorem nar1 : vp_nar .boolean 1 = 1 := by decide +kernel
theorem nar0 : vp_nar .boolean 0 = 0 := by decide +kernel
/-- the second loop of lay: from person p on -/
theorem m_lay2 {can : Nat → Nat → Bool} {w : Nat → Nat} {W : Nat → Bool} {fin : Nat → Option Nat} {n : Int32} (hN : N ≤ 40) (hK : K ≤ 6) (h1' : gI σ 13 1 0 = nI N) (h29 : gI σ 13 29 0 = nI K) (hS : St σ) (hw : ∀ a, a < K → w a ≤ 8) (hF : ∀ p, p < N → FinAt N K can w W fin p)
    (h : ∀ σ', LayM σ σ' N K can → (∀ p, p < N → gA σ' 26 7 p = rI (fin p)) → post (some (xI n)) σ') :
    ∀ (f p : Nat) (σ1 : AS), N - p = f → p ≤ N → LayM σ σ1 N K can → (∀ q, q < p → gA σ1 26 7 q = rI (fin q)) → (∀ q, p ≤ q → q < N → gA σ1 26 7 q = -1) → (∀ q, q < N → gA σ1 21 1 q = bI (W q && decide (p ≤ q))) → (∀ a, a < K → gA σ1 26 21 a = nI (w a - cA fin a p) ∧ cA fin a p ≤ w a) → AW G l M_X12_lay (d + 1) post σ1 kk nn 144 [some (xR (some (13, 0))), some (xI n), some (xI (nI p)), none, none] [] := by
  intro f
  induction f with
  | zero =>
    intro p σ1 hf hp L c0 c1 hw1 hr
    have e : p = N := by omega
    subst e
    exact vc_X12_lay_144 (d := d) (L.1.st hS) ⟨fun _ => h σ1 L c0, fun c => absurd (by rw [L.one, h1']; exact nI_le (Nat.le_refl _) (by omega)) c⟩
  | succ f ih =>
    intro p σ1 hf hp L c0 c1 hw1 hr
    have hpN : p < N := by omega
    have vp : vp_in (nI p) 40 := vp_in_nI (by omega) (by decide)
    refine vc_X12_lay_144 (d := d) (L.1.st hS) ⟨fun c => absurd ((nI_leI (a := N) (b := p) (by omega) (by omega)).mp (by rw [L.one, h1'] at c; exact c)) (by omega), fun _ => ⟨vp, ?_⟩⟩
    rw [nI_clamp (by omega), hw1 p hpN, nI_1, nar0]
    refine ⟨fun c => ⟨vp, ?_⟩, fun c => ?_⟩
    · have Wp : W p = true := (Bool.and_eq_true_iff.mp (bI_ne.mp c)).1
      obtain ⟨b, hbK, eb, gb, nb⟩ := (hF p hpN).2 Wp
      -- asks one by one
      have loop : ∀ (f a : Nat) (σ2 : AS), b - a = f → a ≤ b → LayM σ σ2 N K can → (∀ q, q < p → gA σ2 26 7 q = rI (fin q)) → (∀ q, p ≤ q → q < N → gA σ2 26 7 q = -1) → (∀ q, q < N → gA σ2 21 1 q = bI (W q && decide (p < q))) → (∀ a, a < K → gA σ2 26 21 a = nI (w a - cA fin a p) ∧ cA fin a p ≤ w a) → AW G l M_X12_lay (d + 1) post σ2 kk nn 176 [some (xR (some (13, 0))), some (xI n), some (xI (nI p)), some (xI (nI a)), some (xI 0)] [] := by
        intro f
        induction f with
        | zero =>
          intro a σ2 hf2 hab L2 d0 d1 hw2 hr2
          have e : a = b := by omega
          subst e
          have S2 := L2.1.st hS
          have ra := hr2 a hbK
          have va : vp_in (nI a) 6 := vp_in_nI (by omega) (by decide)
          have pos := gb.2.1
          have bit := (may_bit L2.2.1 hK hpN (show a < 6 by omega)).mpr ⟨hbK, gb.1⟩
          refine vc_X12_lay_176 (d := d) S2 ⟨fun c => absurd rfl c, fun _ => ⟨vp, fun c => absurd (by rw [nI_clamp (by omega)]; exact bit) c, fun _ => ⟨va, fun c => ?_, fun c => ⟨va, va, ?_⟩⟩⟩⟩
          · rw [nI_clamp (by omega), ra.1] at c
            have := (nI_leI (b := 0) (by have := hw a hbK; omega) (by decide)).mp c
            omega
          · obtain ⟨m, em⟩ : ∃ m, w a - cA fin a p = m + 1 := ⟨w a - cA fin a p - 1, by omega⟩
            rw [nI_clamp (by omega), ra.1, em, nI_pred]
            have L3 : LayM σ (sA σ2 26 21 a (nI m)) N K can := L2.setA (Or.inl ⟨rfl, Or.inl rfl⟩)
            refine m_isRoom (N := N) (K := K) (can := can) (r := fun x => w x - cA fin x p - (if x = a then 1 else 0)) (P := fun q => W q && decide (p < q)) (L3.1.st hS) hN hK (L3.one.trans h1') (L3.k.trans h29) L3.2.1 (fun x hx => ?_) (fun q hq => (gA_o (by omega)).trans (hw2 q hq)) ?_
            · have rx := hr2 x hx
              have wx := hw x hx
              by_cases ex : x = a
              · subst ex; rw [gA_self, if_pos rfl, em]; exact ⟨rfl, by omega⟩
              · rw [gA_o (fun z => ex z.2.2), rx.1, if_neg ex]; exact ⟨rfl, by omega⟩
            · have ht : hallD N K can (fun x => w x - cA fin x p - (if x = a then 1 else 0)) (fun q => W q && decide (p < q)) = true := hallD_iff.mpr gb.2.2
              rw [ht]
              refine ⟨L3.1.st hS, fun _ => ⟨fun _ => ?_, fun q => absurd q (by decide)⟩, fun q => absurd q (by decide)⟩
              refine vc_X12_lay_176 (d := d) (L3.1.st hS) ⟨fun _ => ⟨vp, ?_⟩, fun q => absurd q (by decide)⟩
              rw [nI_clamp (by omega), nI_1]
              refine ih (p + 1) _ (by omega) (by omega) (L3.setA (Or.inl ⟨rfl, Or.inr rfl⟩)) (fun q hq => ?_) (fun q hq hqN => ?_) (fun q hq => ?_) (fun x hx => ?_)
              · by_cases e : q = p
                · subst e; rw [gA_self, eb]; rfl
                · rw [gA_o (fun z => e z.2.2), gA_o (by omega)]; exact d0 q (by omega)
              · rw [gA_o (by omega), gA_o (by omega)]; exact d1 q (by omega) hqN
              · rw [gA_o (by omega), gA_o (by omega)]; exact hw2 q hq
              · have ec : cA fin x (p + 1) = cA fin x p + (if fin p = some x then 1 else 0) := rfl
                have rx := hr2 x hx
                by_cases ex : x = a
                · subst ex
                  rw [gA_o (by omega), gA_self, ec, if_pos eb]
                  exact ⟨by rw [show w x - (cA fin x p + 1) = m by omega], by omega⟩
                · rw [gA_o (by omega), gA_o (fun z => ex z.2.2), ec, if_neg (fun z => ex (by rw [eb] at z; exact (Option.some.inj z).symm)), Nat.add_zero]
                  exact rx
        | succ f ih2 =>
          intro a σ2 hf2 hab L2 d0 d1 hw2 hr2
          have ab : a < b := by omega
          have haK : a < K := by omega
          have S2 := L2.1.st hS
          have ra := hr2 a haK
          have wa := hw a haK
          have va : vp_in (nI a) 6 := vp_in_nI (by omega) (by decide)
          have bad := nb a ab
          have go := ih2 (a + 1) σ2 (by omega) (by omega) L2 d0 d1 hw2 hr2
          refine vc_X12_lay_176 (d := d) S2 ⟨fun c => absurd rfl c, fun _ => ⟨vp, fun c => by rw [nI_1]; exact go, fun c => ⟨va, fun c2 => by rw [nI_1]; exact go, fun c2 => ⟨va, va, ?_⟩⟩⟩⟩
          rw [nI_clamp (by omega)] at c
          have cp := ((may_bit L2.2.1 hK hpN (show a < 6 by omega)).mp c).2
          rw [nI_clamp (by omega), ra.1] at c2
          have pos : 0 < w a - cA fin a p := by
            rcases Nat.eq_zero_or_pos (w a - cA fin a p) with z | z
            · rw [z] at c2; exact absurd (by decide) c2
            · exact z
          obtain ⟨m, em⟩ : ∃ m, w a - cA fin a p = m + 1 := ⟨w a - cA fin a p - 1, by omega⟩
          rw [nI_clamp (by omega), ra.1, em, nI_pred]
          have L3 : LayM σ (sA σ2 26 21 a (nI m)) N K can := L2.setA (Or.inl ⟨rfl, Or.inl rfl⟩)
          refine m_isRoom (N := N) (K := K) (can := can) (r := fun x => w x - cA fin x p - (if x = a then 1 else 0)) (P := fun q => W q && decide (p < q)) (L3.1.st hS) hN hK (L3.one.trans h1') (L3.k.trans h29) L3.2.1 (fun x hx => ?_) (fun q hq => (gA_o (by omega)).trans (hw2 q hq)) ?_
          · have rx := hr2 x hx
            have wx := hw x hx
            by_cases ex : x = a
            · subst ex; rw [gA_self, if_pos rfl, em]; exact ⟨rfl, by omega⟩
            · rw [gA_o (fun z => ex z.2.2), rx.1, if_neg ex]; exact ⟨rfl, by omega⟩
          · have hf' : hallD N K can (fun x => w x - cA fin x p - (if x = a then 1 else 0)) (fun q => W q && decide (p < q)) = false := by
              cases z : hallD N K can (fun x => w x - cA fin x p - (if x = a then 1 else 0)) (fun q => W q && decide (p < q))
              · rfl
              · exact absurd ⟨cp, by omega, hallD_iff.mp z⟩ bad
            rw [hf']
            refine ⟨L3.1.st hS, fun q => absurd rfl q, fun _ => ⟨va, va, fun q => absurd rfl q, fun _ => ?_⟩⟩
            rw [gA_self, nI_1, nI_1]
            refine ih2 (a + 1) _ (by omega) (by omega) (L3.setA (Or.inl ⟨rfl, Or.inl rfl⟩)) (fun q hq => ?_) (fun q hq hqN => ?_) (fun q hq => ?_) (fun x hx => ?_)
            · rw [gA_o (by omega), gA_o (by omega)]; exact d0 q hq
            · rw [gA_o (by omega), gA_o (by omega)]; exact d1 q hq hqN
            · rw [gA_o (by omega), gA_o (by omega)]; exact hw2 q hq
            · by_cases ex : x = a
              · subst ex; rw [gA_self]; exact ⟨by rw [em], ra.2⟩
              · rw [gA_o (fun z => ex z.2.2), gA_o (fun z => ex z.2.2)]; exact hr2 x hx
      have z := loop b 0 (sA σ1 21 1 p 0) rfl (Nat.zero_le _) (L.setA (Or.inr ⟨rfl, Or.inl rfl⟩)) (fun q hq => (gA_o (by omega)).trans (c0 q hq)) (fun q hq hqN => (gA_o (by omega)).trans (c1 q hq hqN)) (fun q hq => ?_) (fun a ha => by rw [gA_o (by omega)]; exact hr a ha)
      · rw [nI_0] at z
        exact z
      · by_cases e : q = p
        · subst e; rw [gA_self, decide_eq_false (Nat.lt_irrefl q), Bool.and_false]; rfl
        · rw [gA_o (fun z => e z.2.2), hw1 q hq]
          have : decide (p ≤ q) = decide (p < q) := by
            have i1 : p ≤ q ↔ p < q := by omega
            simp only [i1]
          rw [this]
    · have Wp : W p = false := by
        have := bI_eq.mp c
        rw [decide_eq_true (Nat.le_refl p), Bool.and_true] at this
        exact this
      have en := (hF p hpN).1 Wp
      refine ih (p + 1) σ1 (by omega) (by omega) L (fun q hq => ?_) (fun q hq hqN => c1 q (by omega) hqN) (fun q hq => ?_) (fun a ha => ?_)
      · by_cases e : q = p
        · subst e; rw [en, c1 q (Nat.le_refl q) hpN]; rfl
        · exact c0 q (by omega)
      · rw [hw1 q hq]
        by_cases e : q = p
        · subst e; rw [Wp]; rfl
        · have : decide (p ≤ q) = decide (p + 1 ≤ q) := by
            have i1 : p ≤ q ↔ p + 1 ≤ q := by omega
            simp only [i1]
          rw [this]
      · have ec : cA fin a (p + 1) = cA fin a p + (if fin p = some a then 1 else 0) := rfl
        rw [ec, en, if_neg (by simp), Nat.add_zero]
        exact hr a ha
end MLAY
