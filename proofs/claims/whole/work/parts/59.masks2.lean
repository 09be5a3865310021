/-! The model's asks. -/
section MASKS2
variable {G : GG} {l : Launch} {d : Nat} {post : Option AVal → AS → Prop} {σ : AS} {kk nn : Nat}
theorem nar_sgb : ∀ c, c < 256 → vp_nar .byte (sgb (nI c)) = sgb (nI c) := by decide +kernel
theorem m_nobody {R : Prop} {P : Nat → Prop} {Q : Nat → Nat → Prop} (hQ : Q 26 7) (hS : St σ) (h : ∀ σ', MZ R P Q σ σ' → (∀ a j, a ≠ 7 → gA σ' 26 a j = gA σ 26 a j) → (∀ c a j, c ≠ 26 → gA σ' c a j = gA σ c a j) → (∀ f i, gI σ' 13 f i = gI σ 13 f i) → (∀ p, p < 40 → gA σ' 26 7 p = -1) → post none σ') : AMet G l M_X12_nobody d 0 0 [xR (some (13, 0))] σ post := by
  have loop : ∀ (f v : Nat) (σ1 : AS), 40 - v = f → v ≤ 40 → MZ R P Q σ σ1 → (∀ a j, a ≠ 7 → gA σ1 26 a j = gA σ 26 a j) → (∀ c a j, c ≠ 26 → gA σ1 c a j = gA σ c a j) → (∀ f i, gI σ1 13 f i = gI σ 13 f i) → (∀ p, p < v → gA σ1 26 7 p = -1) → AW G l M_X12_nobody d post σ1 0 0 2 [some (xR (some (13, 0))), some (xI (nI v))] [] := by
    intro f
    induction f with
    | zero =>
      intro v σ1 hf hv Z o1 o2 o3 p
      have e : v = 40 := by omega
      subst e
      exact vc_X12_nobody_2 (Z.st hS) ⟨fun _ => h σ1 Z o1 o2 o3 p, fun c => absurd (by decide) c⟩
    | succ f ih =>
      intro v σ1 hf hv Z o1 o2 o3 p
      refine vc_X12_nobody_2 (Z.st hS) ⟨fun c => absurd ((nI_leI (a := 40) (by decide) (by omega)).mp c) (by omega), fun _ => ⟨vp_in_nI (by omega) (by decide), ?_⟩⟩
      rw [nI_clamp (by omega), nI_1]
      refine ih (v + 1) _ (by omega) (by omega) (Z.setA (by decide) hQ) (fun a j ha => (gA_o (fun e => ha e.2.1)).trans (o1 a j ha)) (fun c a j hc => (gA_o (fun e => hc e.1)).trans (o2 c a j hc)) o3 (fun q hq => ?_)
      rw [gA_sA]
      by_cases e : q = v
      · rw [if_pos ⟨rfl, rfl, e⟩]
      · rw [if_neg (fun z => e z.2.2)]; exact p q (by omega)
  refine AMet.of rfl (Nat.le_of_ble_eq_true rfl) (vc_X12_nobody ?_)
  have k := loop 40 0 σ rfl (Nat.zero_le _) MZ.rf (fun _ _ _ => rfl) (fun _ _ _ _ => rfl) (fun _ _ => rfl) (fun p hp => absurd hp (Nat.not_lt_zero p))
  rw [nI_0] at k
  exact k
def PB : Nat → Prop := fun f => f = 0 ∨ f = 17 ∨ (19 ≤ f ∧ f ≤ 27) ∨ f = 37
def PO : Nat → Prop := fun f => PB f ∨ f = 29 ∨ f = 31
def QO : Nat → Nat → Prop := fun c a => (c = 26 ∧ (a = 7 ∨ (10 ≤ a ∧ a ≤ 19))) ∨ (c = 22 ∧ a = 1)
/-- the new asks' rows -/
def NewA (σ : AS) (n : Nat) (b : Nat → Int32) (k : Nat) : Prop := ∀ a, a < k → gA σ 26 15 a = (h0 n b (ip n b a)).2 ∧ gA σ 26 16 a = (h1 n b (ip n b a)).2 ∧ gA σ 26 17 a = (h2 n b (ip n b a)).2 ∧ gA σ 26 18 a = (h3 n b (ip n b a)).2 ∧ gA σ 26 19 a = nI (hd n b (ip n b a)).2
def OldA (σ : AS) (n : Nat) (b : Nat → Int32) (k : Nat) : Prop := ∀ a, a < k → gA σ 26 10 a = (h0 n b (ip n b a)).2 ∧ gA σ 26 11 a = (h1 n b (ip n b a)).2 ∧ gA σ 26 12 a = (h2 n b (ip n b a)).2 ∧ gA σ 26 13 a = (h3 n b (ip n b a)).2 ∧ gA σ 26 14 a = nI (hd n b (ip n b a)).2
def MidB (σ σ1 : AS) (n : Nat) (b : Nat → Int32) (k : Nat) : Prop := MZ True PB QA σ σ1 ∧ MB σ1 0 n b ∧ MTok σ1 n b (ip n b k) ∧ ip n b k ≤ n ∧ gI σ1 13 24 0 = 0 ∧ gI σ1 13 37 0 = nI k ∧ ¬ gI σ1 13 27 0 = 0 ∧ NewA σ1 n b k ∧ gI σ1 13 0 0 = 0 ∧ gI σ1 13 17 0 = nI n
theorem PA_PB : ∀ f, PA f → PB f := fun f h => by rcases h with h | h
                                                  · exact Or.inr (Or.inr (Or.inl ⟨by omega, by omega⟩))
                                                  · exact Or.inr (Or.inr (Or.inr h))
theorem a_masks {n : Nat} {b : Nat → Int32} (hS : St σ)
    (hok : ∀ k σ1, k ≤ 6 → (∃ i, rall n b 6 0 0 = (k, (0, i))) → MidB σ σ1 n b k → AW G l M_X12_asks (d + 33) post (sI (sI σ1 13 17 0 0) 13 26 0 (-1)) kk nn 100 [some (xR (some (13, 0))), some (xI (nI n)), some (xI 0)] [])
    (hbad : ∀ k o σ1, rall n b 6 0 0 = (k, o) → ¬ o.1 = 0 → MZ True PB QA σ σ1 → gI σ1 13 0 0 = 0 → gI σ1 13 24 0 = o.1 → gI σ1 13 25 0 = nI o.2 → post (some (xI (-2 - o.1))) (sI (sI σ1 13 17 0 0) 13 26 0 (nI o.2))) :
    ∀ f k, k + f = 6 → ∀ σ1, rall n b f k (ip n b k) = rall n b 6 0 0 → MidB σ σ1 n b k → AW G l M_X12_asks (d + 33) post σ1 kk nn 33 [some (xR (some (13, 0))), none, none] [] := by
  have bad : ∀ k o σ1, rall n b 6 0 0 = (k, o) → ¬ o.1 = 0 → MZ True PB QA σ σ1 → gI σ1 13 0 0 = 0 → gI σ1 13 24 0 = o.1 → gI σ1 13 25 0 = nI o.2 → AW G l M_X12_asks (d + 33) post σ1 kk nn 33 [some (xR (some (13, 0))), none, none] [] := by
    intro k o σ1 e z Z z0 f1 f2
    have z' : ¬ gI σ1 13 24 0 = 0 := by rw [f1]; exact z
    refine vc_X12_asks_33 (d := d + 32) ⟨fun _ => ⟨fun _ => ⟨fun q => absurd q z', fun _ => ?_⟩, fun q => absurd q z'⟩, fun q => absurd q z'⟩
    rw [f1, f2]
    exact hbad k o σ1 e z Z z0 f1 f2
  have head : ∀ k σ1, k ≤ 6 → MidB σ σ1 n b k → (tK n b (ip n b k) = 0 → rall n b 6 0 0 = (k, (0, ip n b k))) →
      (¬ tK n b (ip n b k) = 0 → ∀ σ2, AP σ1 σ2 n b (ip n b k) k (rk n b k (ip n b k)) → AW G l M_X12_asks (d + 33) post σ2 kk nn 33 [some (xR (some (13, 0))), none, none] []) → AW G l M_X12_asks (d + 33) post σ1 kk nn 33 [some (xR (some (13, 0))), none, none] [] := by
    intro k σ1 hk M e0 e1
    obtain ⟨Z, B, T, hle, z24, z37, z27, N, z0, z17⟩ := id M
    refine vc_X12_asks_33 (d := d + 32) ⟨fun q => absurd z24 q, fun _ => ⟨fun c => ⟨fun q => absurd z24 q, fun _ => ⟨fun _ => ?_, fun q => absurd z24 q⟩⟩, fun c => ?_⟩⟩
    · rw [T.2.2.1] at c
      rw [z17]
      exact hok k σ1 hk ⟨_, e0 (mS_0.mp c)⟩ M
    · rw [T.2.2.1] at c
      exact m_readAsk (d := d) hk (Z.st hS) B hle T z24 z37 z27 (fun σ2 A => e1 (fun q => c (mS_0.mpr q)) σ2 A)
  intro f
  induction f with
  | zero =>
    intro k hkf σ1 hR M
    have e6 : k = 6 := by omega
    subst e6
    refine head 6 σ1 (Nat.le_refl 6) M (fun c => ?_) (fun c σ2 A => ?_)
    · rw [← hR, rall, if_pos c]
    · rw [rall, if_neg c] at hR
      have ne : ¬ (rk n b 6 (ip n b 6)).1 = 0 := by
        unfold rk
        by_cases w : isW n b (ip n b 6) 0 = true
        · rw [if_pos w, if_pos rfl]; exact i2n0
        · rw [if_neg w]; exact i1n0
      have e : (if isW n b (ip n b 6) 0 = true then ((2 : Int32), tS n b (ip n b 6)) else (1, tS n b (ip n b 6))) = rk n b 6 (ip n b 6) := by
        unfold rk
        by_cases w : isW n b (ip n b 6) 0 = true
        · rw [if_pos w, if_pos w, if_pos rfl]
        · rw [if_neg w, if_neg w]
      rw [e] at hR
      obtain ⟨Z2, oth, R2, _⟩ := A
      rcases R2 with q | q
      · exact absurd q.1 ne
      · exact bad 6 _ σ2 hR.symm ne (M.1.tr (Z2.mono (fun _ => trivial) PA_PB (fun _ _ q => q))) ((Z2.2.2.2.2.1 0 0 (fun q => by rcases q with q | q <;> omega)).trans M.2.2.2.2.2.2.2.2.1) q.2.1 q.2.2
  | succ f ih =>
    intro k hkf σ1 hR M
    refine head k σ1 (by omega) M (fun c => ?_) (fun c σ2 A => ?_)
    · rw [← hR, rall, if_pos c]
    · rw [rall, if_neg c] at hR
      have e : rk n b k (ip n b k) = ra n b (ip n b k) := by
        unfold rk
        by_cases w : isW n b (ip n b k) 0 = true
        · rw [if_pos w, if_neg (by omega)]
        · rw [if_neg w, ra_no w]
      rw [e] at A
      obtain ⟨Z2, oth, R2, vs⟩ := A
      have Z3 : MZ True PB QA σ σ2 := M.1.tr (Z2.mono (fun _ => trivial) PA_PB (fun _ _ q => q))
      have z0 : gI σ2 13 0 0 = 0 := (Z2.2.2.2.2.1 0 0 (fun q => by rcases q with q | q <;> omega)).trans M.2.2.2.2.2.2.2.2.1
      rcases R2 with q | q
      · rw [if_pos q.1] at hR
        obtain ⟨v37, w1, w2, w3, w4, w5⟩ := vs q.1
        refine ih (k + 1) (by omega) σ2 hR ⟨Z3, Z2.mb (fun q => by rcases q with q | q <;> omega) (fun q => absurd q.1 (by decide)) M.2.1, q.2.1, q.2.2.1, q.2.2.2, v37, ?_, fun a ha => ?_, z0, ?_⟩
        · rw [Z2.2.2.2.2.1 27 0 (fun q => by rcases q with q | q <;> omega)]; exact M.2.2.2.2.2.2.1
        · by_cases ea : a = k
          · subst ea; exact ⟨w1, w2, w3, w4, w5⟩
          · rw [oth 15 a ea, oth 16 a ea, oth 17 a ea, oth 18 a ea, oth 19 a ea]
            exact M.2.2.2.2.2.2.2.1 a (by omega)
        · exact (Z2.2.2.2.2.1 17 0 (fun q => by rcases q with q | q <;> omega)).trans M.2.2.2.2.2.2.2.2.2
      · rw [if_neg q.1] at hR
        exact bad k _ σ2 hR.symm q.1 Z3 z0 q.2.1 q.2.2
theorem m_starts {j n i : Nat} {b : Nat → Int32} {s : Int32} (hn : n ≤ 1000) (hi : i ≤ n) (hs : s = nI n) (hl : gN σ 22 j = 1000) (hb : ∀ i, i < n → gA σ 22 j i = sgb (b i)) (hb2 : ∀ i, i < n → ∃ m, m < 256 ∧ b i = nI m) {R : Prop} {P : Nat → Prop} {Q : Nat → Nat → Prop} (hR : R) (hP : ∀ f, 19 ≤ f → f ≤ 25 → P f) (h24 : gI σ 13 24 0 = 0)
    (h : ∀ σ', MZ R P Q σ σ' → (∀ f i, ¬ (19 ≤ f ∧ f ≤ 25) → gI σ' 13 f i = gI σ 13 f i) → (∀ c a j, c ≠ 13 → gA σ' c a j = gA σ c a j) → MB σ' j n b → MTok σ' n b i → gI σ' 13 24 0 = 0 → post none σ') : AMet G l M_X12_starts (d + 2) 0 0 [xR (some (13, 0)), xR (some (22, j)), xI s, xI (nI i)] σ post := by
  subst hs
  have B : MB (sI (sI (sR σ 13 18 0 (some (22, j))) 13 19 0 (nI n)) 13 20 0 (nI i)) j n b := ⟨by show gR (sR σ 13 18 0 (some (22, j))) 13 18 0 = _; rw [gR_sR, if_pos ⟨rfl, rfl, rfl⟩], by rw [gI_o (by decide), gI_self], hn, hl, hb, hb2⟩
  have Z0 : MZ R P Q σ (sI (sI (sR σ 13 18 0 (some (22, j))) 13 19 0 (nI n)) 13 20 0 (nI i)) := by
    refine MZ.set (MZ.set ?_ (hP 19 (by decide) (by decide))) (hP 20 (by decide) (by decide))
    exact ⟨fun c hc => eqK_sR hc.1, fun _ => rfl, fun _ _ => rfl, fun c f i z => by rw [gR_sR, if_neg (fun e => z ⟨hR, e.1, e.2.1⟩)], fun _ _ _ => rfl, fun _ _ _ _ _ => rfl⟩
  refine AMet.of rfl (Nat.le_of_ble_eq_true rfl) (vc_X12_starts (d := d + 1) (m_next B hi gI_self (fun σ' M T => ?_)))
  refine h σ' (Z0.tr (MZ.ofQ M.mq (fun f a c => hP f (by omega) c))) (fun f x z => ?_) (fun c a x hc => ?_) (M.mb B) T ?_
  · rw [M.2.2.2.2 f x (by omega), gI_o (fun e => z (by omega)), gI_o (fun e => z (by omega))]
    rfl
  · exact (M.1 c hc).2.2.2.2.1 a x
  · rw [M.2.2.2.2 24 0 (by omega), gI_o (by decide), gI_o (by decide)]
    exact h24
theorem m_asks {n : Nat} {b : Nat → Int32} (hS : St σ) (h17 : gI σ 13 17 0 = nI n) (hn : n ≤ 1000) (hb : ∀ i, i < n → gA σ 22 0 i = sgb (b i)) (hb2 : ∀ i, i < n → ∃ m, m < 256 ∧ b i = nI m)
    (hok : ∀ k σ', k ≤ 6 → (∃ i, rall n b 6 0 0 = (k, (0, i))) → MZ True PO QO σ σ' → gI σ' 13 0 0 = 0 → gI σ' 13 17 0 = 0 → gI σ' 13 26 0 = -1 → gI σ' 13 29 0 = nI k → gI σ' 13 31 0 = nI n → (∀ i, i < n → gA σ' 22 1 i = sgb (b i)) → (∀ p, p < 40 → gA σ' 26 7 p = -1) → OldA σ' n b k → post (some (xI (nI k))) σ')
    (hbad : ∀ k o σ', rall n b 6 0 0 = (k, o) → ¬ o.1 = 0 → MZ True PB QA σ σ' → gI σ' 13 0 0 = 0 → gI σ' 13 17 0 = 0 → gI σ' 13 26 0 = nI o.2 → post (some (xI (-2 - o.1))) σ') : AMet G l M_X12_asks (d + 33) 0 0 [xR (some (13, 0))] σ post := by
  have lT : gN σ 22 0 = 1000 := St.len hS 22 0 1000 (by decide)
  have F0 : MZ True PB QA σ (sI (sI (sI (sI σ 13 0 0 0) 13 24 0 0) 13 27 0 1) 13 37 0 0) := (((MZ.rf.set (Or.inl rfl)).set (Or.inr (Or.inr (Or.inl ⟨by omega, by omega⟩)))).set (Or.inr (Or.inr (Or.inl ⟨by omega, by omega⟩)))).set (Or.inr (Or.inr (Or.inr rfl)))
  refine AMet.of rfl (Nat.le_of_ble_eq_true rfl) (vc_X12_asks (d := d + 32) hS (m_starts (d := d + 30) (i := 0) (b := b) (R := True) (P := PB) (Q := QA) hn (Nat.zero_le n) h17 lT hb hb2 trivial (fun f a c => Or.inr (Or.inr (Or.inl ⟨a, by omega⟩))) (by rw [gI_o (by decide), gI_o (by decide), gI_self]) (fun σ1 Z1 g1 a1 B1 T1 z1 => ?_)))
  refine a_masks hS (fun k σ2 hk hR M => ?_) (fun k o σ2 hR z Z z0 f1 f2 => ?_) 6 0 rfl σ1 rfl ⟨F0.tr Z1, B1, T1, Nat.zero_le n, z1, ?_, ?_, fun a ha => absurd ha (Nat.not_lt_zero a), ?_, ?_⟩
  · obtain ⟨Z2, B2, T2, hle2, y24, y37, y27, N2, y0, y17⟩ := M
    have ZO : ∀ {σ3 : AS}, MZ True PB QA σ σ3 → MZ True PO QO σ σ3 := fun Z => Z.mono id (fun f q => Or.inl q) (fun c a q => Or.inl ⟨q.1, Or.inr ⟨by have := q.2.1; omega, q.2.2⟩⟩)
    have Z3 : MZ True PO QO σ (sI (sI σ2 13 17 0 0) 13 26 0 (-1)) := ((ZO Z2).set (Or.inl (Or.inr (Or.inl rfl)))).set (Or.inl (Or.inr (Or.inr (Or.inl ⟨by omega, by omega⟩))))
    have hb3 : ∀ i, i < n → gA σ2 22 0 i = sgb (b i) := B2.2.2.2.2.1
    have copy : ∀ (f v : Nat) (σ3 : AS), n - v = f → v ≤ n → MZ True PO QO σ σ3 → (∀ c a i, ¬ (c = 22 ∧ a = 1) → gA σ3 c a i = gA σ2 c a i) → (∀ f i, gI σ3 13 f i = gI (sI (sI σ2 13 17 0 0) 13 26 0 (-1)) 13 f i) → (∀ i, i < v → gA σ3 22 1 i = sgb (b i)) → AW G l M_X12_asks (d + 33) post σ3 0 0 100 [some (xR (some (13, 0))), some (xI (nI n)), some (xI (nI v))] [] := by
      intro f
      induction f with
      | zero =>
        intro v σ3 hf hv Z o1 o2 t
        have e : v = n := by omega
        subst e
        refine vc_X12_asks_100 (d := d + 32) (Z.st hS) ⟨fun _ => ?_, fun c => absurd (nI_le (Nat.le_refl v) (by omega)) c⟩
        have y37' : gI σ3 13 37 0 = nI k := by rw [o2, gI_o (by decide), gI_o (by decide)]; exact y37
        rw [y37']
        have Z4 : MZ True PO QO σ (sI (sI σ3 13 31 0 (nI v)) 13 29 0 (nI k)) := (Z.set (Or.inr (Or.inr rfl))).set (Or.inr (Or.inl rfl))
        have fin : ∀ (f w : Nat) (σ4 : AS), k - w = f → w ≤ k → MZ True PO QO σ σ4 → (∀ c a i, ¬ (c = 26 ∧ 10 ≤ a ∧ a ≤ 14) → gA σ4 c a i = gA σ3 c a i) → (∀ f i, gI σ4 13 f i = gI (sI (sI σ3 13 31 0 (nI v)) 13 29 0 (nI k)) 13 f i) → OldA σ4 v b w → AW G l M_X12_asks (d + 33) post σ4 0 0 138 [some (xR (some (13, 0))), none, some (xI (nI w))] [] := by
          intro f
          induction f with
          | zero =>
            intro w σ4 hf hw Z5 p1 p2 O
            have e : w = k := by omega
            subst e
            have e29 : gI σ4 13 29 0 = nI w := by rw [p2, gI_self]
            refine vc_X12_asks_138 (d := d + 32) (Z5.st hS) ⟨fun _ => m_nobody (R := True) (P := PO) (Q := QO) (Or.inl ⟨rfl, Or.inl rfl⟩) (Z5.st hS) (fun σ5 Z6 r1 r2 r3 r4 => ?_), fun c => absurd (by rw [e29]; exact nI_le (Nat.le_refl w) (by omega)) c⟩
            have w29 : gI σ5 13 29 0 = nI w := (r3 29 0).trans e29
            show post (some (xI (gI σ5 13 29 0))) σ5
            rw [w29]
            have ff : ∀ f, f ≠ 29 → f ≠ 31 → f ≠ 17 → f ≠ 26 → gI σ5 13 f 0 = gI σ2 13 f 0 := fun f a1 a2 a3 a4 => by rw [r3, p2, gI_o (by omega), gI_o (by omega), o2, gI_o (by omega), gI_o (by omega)]
            refine hok w σ5 hk hR (Z5.tr Z6) ((ff 0 (by decide) (by decide) (by decide) (by decide)).trans y0) ?_ ?_ w29 ?_ (fun i hi => ?_) r4 (fun a ha => ?_)
            · rw [r3, p2, gI_o (by decide), gI_o (by decide), o2, gI_o (by decide), gI_self]
            · rw [r3, p2, gI_o (by decide), gI_o (by decide), o2, gI_self]
            · rw [r3, p2, gI_o (by decide), gI_self]
            · rw [r2 22 1 i (by decide), p1 22 1 i (by omega)]; exact t i hi
            · rw [r1 10 a (by decide), r1 11 a (by decide), r1 12 a (by decide), r1 13 a (by decide), r1 14 a (by decide)]
              exact O a ha
          | succ f ih =>
            intro w σ4 hf hw Z5 p1 p2 O
            have e29 : gI σ4 13 29 0 = nI k := by rw [p2, gI_self]
            have vi : vp_in (nI w) 6 := vp_in_nI (by omega) (by decide)
            refine vc_X12_asks_138 (d := d + 32) (Z5.st hS) ⟨fun c => absurd ((nI_leI (a := k) (b := w) (by omega) (by omega)).mp (by rw [e29] at c; exact c)) (by omega), fun _ => ⟨vi, vi, vi, vi, vi, vi, vi, vi, vi, vi, ?_⟩⟩
            rw [nI_clamp (by omega), nI_1]
            have qo : ∀ a, 10 ≤ a → a ≤ 14 → QO 26 a := fun a x y => Or.inl ⟨rfl, Or.inr ⟨x, by omega⟩⟩
            have src : ∀ a, 15 ≤ a → gA σ4 26 a w = gA σ2 26 a w := fun a ha => by rw [p1 26 a w (by omega), o1 26 a w (by omega)]
            refine ih (w + 1) _ (by omega) (by omega) (((((Z5.setA (by decide) (qo 10 (by decide) (by decide))).setA (by decide) (qo 11 (by decide) (by decide))).setA (by decide) (qo 12 (by decide) (by decide))).setA (by decide) (qo 13 (by decide) (by decide))).setA (by decide) (qo 14 (by decide) (by decide))) (fun c a i z => ?_) p2 (fun a ha => ?_)
            · rw [gA_o (fun e => z ⟨e.1, by omega, by omega⟩), gA_o (fun e => z ⟨e.1, by omega, by omega⟩), gA_o (fun e => z ⟨e.1, by omega, by omega⟩), gA_o (fun e => z ⟨e.1, by omega, by omega⟩), gA_o (fun e => z ⟨e.1, by omega, by omega⟩)]
              exact p1 c a i z
            · by_cases ea : a = w
              · subst ea
                obtain ⟨n1, n2, n3, n4, n5⟩ := N2 a (by omega)
                refine ⟨?_, ?_, ?_, ?_, ?_⟩
                · rw [gA_o (by omega), gA_o (by omega), gA_o (by omega), gA_o (by omega), gA_self, src 15 (by decide)]; exact n1
                · rw [gA_o (by omega), gA_o (by omega), gA_o (by omega), gA_self, gA_o (by omega), src 16 (by decide)]; exact n2
                · rw [gA_o (by omega), gA_o (by omega), gA_self, gA_o (by omega), gA_o (by omega), src 17 (by decide)]; exact n3
                · rw [gA_o (by omega), gA_self, gA_o (by omega), gA_o (by omega), gA_o (by omega), src 18 (by decide)]; exact n4
                · rw [gA_self, gA_o (by omega), gA_o (by omega), gA_o (by omega), gA_o (by omega), src 19 (by decide)]; exact n5
              · have ok : ∀ a', gA (sA (sA (sA (sA (sA σ4 26 10 w (gA σ4 26 15 w)) 26 11 w (gA (sA σ4 26 10 w (gA σ4 26 15 w)) 26 16 w)) 26 12 w (gA (sA (sA σ4 26 10 w (gA σ4 26 15 w)) 26 11 w (gA (sA σ4 26 10 w (gA σ4 26 15 w)) 26 16 w)) 26 17 w)) 26 13 w (gA (sA (sA (sA σ4 26 10 w (gA σ4 26 15 w)) 26 11 w (gA (sA σ4 26 10 w (gA σ4 26 15 w)) 26 16 w)) 26 12 w (gA (sA (sA σ4 26 10 w (gA σ4 26 15 w)) 26 11 w (gA (sA σ4 26 10 w (gA σ4 26 15 w)) 26 16 w)) 26 17 w)) 26 18 w)) 26 14 w (gA (sA (sA (sA (sA σ4 26 10 w (gA σ4 26 15 w)) 26 11 w (gA (sA σ4 26 10 w (gA σ4 26 15 w)) 26 16 w)) 26 12 w (gA (sA (sA σ4 26 10 w (gA σ4 26 15 w)) 26 11 w (gA (sA σ4 26 10 w (gA σ4 26 15 w)) 26 16 w)) 26 17 w)) 26 13 w (gA (sA (sA (sA σ4 26 10 w (gA σ4 26 15 w)) 26 11 w (gA (sA σ4 26 10 w (gA σ4 26 15 w)) 26 16 w)) 26 12 w (gA (sA (sA σ4 26 10 w (gA σ4 26 15 w)) 26 11 w (gA (sA σ4 26 10 w (gA σ4 26 15 w)) 26 16 w)) 26 17 w)) 26 18 w)) 26 19 w)) 26 a' a = gA σ4 26 a' a := fun a' => by
                  rw [gA_o (fun e => ea e.2.2), gA_o (fun e => ea e.2.2), gA_o (fun e => ea e.2.2), gA_o (fun e => ea e.2.2), gA_o (fun e => ea e.2.2)]
                rw [ok 10, ok 11, ok 12, ok 13, ok 14]
                exact O a (by omega)
        have z := fin k 0 _ rfl (Nat.zero_le k) Z4 (fun _ _ _ _ => rfl) (fun _ _ => rfl) (fun a ha => absurd ha (Nat.not_lt_zero a))
        rw [nI_0] at z
        exact z
      | succ f ih =>
        intro v σ3 hf hv Z o1 o2 t
        have vi : vp_in (nI v) 1000 := vp_in_nI (by omega) (by decide)
        refine vc_X12_asks_100 (d := d + 32) (Z.st hS) ⟨fun c => absurd ((nI_leI (by omega) (by omega)).mp c) (by omega), fun _ => ⟨vi, vi, ?_⟩⟩
        rw [nI_clamp (by omega), nI_1]
        obtain ⟨m, hm, em⟩ := hb2 v (by omega)
        have ev : vp_nar .byte (gA σ3 22 0 v) = sgb (b v) := by rw [o1 22 0 v (by omega), hb3 v (by omega), em]; exact nar_sgb m hm
        rw [ev]
        refine ih (v + 1) _ (by omega) (by omega) (Z.setA (by decide) (Or.inr ⟨rfl, rfl⟩)) (fun c a i z => (gA_o (fun e => z ⟨e.1, e.2.1⟩)).trans (o1 c a i z)) o2 (fun i hi => ?_)
        by_cases e : i = v
        · subst e; exact gA_self
        · rw [gA_o (fun q => e q.2.2)]; exact t i (by omega)
    have z := copy n 0 _ rfl (Nat.zero_le n) Z3 (fun _ _ _ _ => rfl) (fun _ _ => rfl) (fun i hi => absurd hi (Nat.not_lt_zero i))
    rw [nI_0] at z
    exact z
  · refine hbad k o _ hR z ((Z.set (Or.inr (Or.inl rfl))).set (Or.inr (Or.inr (Or.inl ⟨by omega, by omega⟩)))) ?_ ?_ gI_self
    · rw [gI_o (by decide), gI_o (by decide)]; exact z0
    · rw [gI_o (by decide), gI_self]
  · rw [g1 37 0 (by omega), gI_self, nI_0]
  · rw [g1 27 0 (by omega), gI_o (by decide), gI_self]; exact i1n0
  · rw [g1 0 0 (by omega), gI_o (by decide), gI_o (by decide), gI_o (by decide), gI_self]
  · rw [g1 17 0 (by omega), gI_o (by decide), gI_o (by decide), gI_o (by decide), gI_o (by decide)]; exact h17
end MASKS2
