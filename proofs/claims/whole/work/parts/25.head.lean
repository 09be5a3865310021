/-! The head of an ask; its steps. -/
section HEAD
variable {G : GG} {l : Launch} {d : Nat} {post : Option AVal → AS → Prop} {σ : AS} {kk nn : Nat}
/-- the old ones of kind c are as they were -/
def oldK (σ σ' : AS) (c : Nat) : Prop := cnt σ c ≤ cnt σ' c ∧ ∀ i, i < cnt σ c → (∀ f, gI σ' c f i = gI σ c f i) ∧ (∀ f, gR σ' c f i = gR σ c f i) ∧ gN σ' c i = gN σ c i ∧ (∀ j, gA σ' c i j = gA σ c i j) ∧ (∀ j, gQ σ' c i j = gQ σ c i j) ∧ ∀ j, gL σ' c i j = gL σ c i j
theorem oldK.rf {c : Nat} : oldK σ σ c := ⟨Nat.le_refl _, fun _ _ => ⟨fun _ => rfl, fun _ => rfl, rfl, fun _ => rfl, fun _ => rfl, fun _ => rfl⟩⟩
theorem eqK.old {σ' : AS} {c : Nat} (h : eqK σ σ' c) : oldK σ σ' c := ⟨Nat.le_of_eq h.1.symm, fun i _ => ⟨fun f => h.2.1 f i, fun f => h.2.2.1 f i, h.2.2.2.1 i, fun j => h.2.2.2.2.1 i j, fun j => h.2.2.2.2.2.1 i j, fun j => h.2.2.2.2.2.2 i j⟩⟩
theorem oldK.tr {σ1 σ2 : AS} {c : Nat} (h : oldK σ σ1 c) (k : oldK σ1 σ2 c) : oldK σ σ2 c := ⟨Nat.le_trans h.1 k.1, fun i hi => by
  obtain ⟨a1, a2, a3, a4, a5, a6⟩ := h.2 i hi
  obtain ⟨b1, b2, b3, b4, b5, b6⟩ := k.2 i (Nat.lt_of_lt_of_le hi h.1)
  exact ⟨fun f => (b1 f).trans (a1 f), fun f => (b2 f).trans (a2 f), b3.trans a3, fun f => (b4 f).trans (a4 f), fun f => (b5 f).trans (a5 f), fun f => (b6 f).trans (a6 f)⟩⟩
theorem oldK.sI {σ1 : AS} {c f x : Nat} {v : Int32} (h : oldK σ σ1 c) (hx : cnt σ c ≤ x) : oldK σ (sI σ1 c f x v) c := ⟨h.1, fun i hi => by
  obtain ⟨a1, a2, a3, a4, a5, a6⟩ := h.2 i hi
  exact ⟨fun g => by rw [gI_sI, if_neg (fun e => by have := e.2.2; omega)]; exact a1 g, a2, a3, a4, a5, a6⟩⟩
theorem oldK.sR {σ1 : AS} {c f x : Nat} {v : Option Nm} (h : oldK σ σ1 c) (hx : cnt σ c ≤ x) : oldK σ (sR σ1 c f x v) c := ⟨h.1, fun i hi => by
  obtain ⟨a1, a2, a3, a4, a5, a6⟩ := h.2 i hi
  exact ⟨a1, fun g => by rw [gR_sR, if_neg (fun e => by have := e.2.2; omega)]; exact a2 g, a3, a4, a5, a6⟩⟩
theorem oldK.sA {σ1 : AS} {c x j : Nat} {v : Int32} (h : oldK σ σ1 c) (hx : cnt σ c ≤ x) : oldK σ (sA σ1 c x j v) c := ⟨h.1, fun i hi => by
  obtain ⟨a1, a2, a3, a4, a5, a6⟩ := h.2 i hi
  exact ⟨a1, a2, a3, fun g => by rw [gA_sA, if_neg (fun e => by have := e.2.1; omega)]; exact a4 g, a5, a6⟩⟩
theorem oldK_nA {c n : Nat} : oldK σ (nA σ c n) c := ⟨by rw [cnt_nA, if_pos rfl]; omega, fun i hi => ⟨fun g => by rw [gI_nA, if_neg (fun e => by have := e.2; omega)], fun g => by rw [gR_nA, if_neg (fun e => by have := e.2; omega)], by rw [gN_nA, if_neg (fun e => by have := e.2; omega)], fun g => by rw [gA_nA, if_neg (fun e => by have := e.2; omega)], fun g => by rw [gQ_nA, if_neg (fun e => by have := e.2; omega)], fun g => by rw [gL_nA, if_neg (fun e => by have := e.2; omega)]⟩⟩
theorem oldK_nO {c : Nat} : oldK σ (nO σ c) c := oldK_nA
/-- the four numbers of a head -/
def h0 (n : Nat) (b : Nat → Int32) (i : Nat) : Out × Int32 := wN n b i 0 0 19
def h1 (n : Nat) (b : Nat → Int32) (i : Nat) : Out × Int32 := wN n b (h0 n b i).1.2 1 0 1439
def h2 (n : Nat) (b : Nat → Int32) (i : Nat) : Out × Int32 := wN n b (h1 n b i).1.2 2 1 600
def h3 (n : Nat) (b : Nat → Int32) (i : Nat) : Out × Int32 := wN n b (h2 n b i).1.2 3 1 8
def hd (n : Nat) (b : Nat → Int32) (i : Nat) : Out := if (h0 n b i).1.1 = 0 then (if (h1 n b i).1.1 = 0 then (if (h2 n b i).1.1 = 0 then (if (h3 n b i).1.1 = 0 then (if isG n b (h3 n b i).1.2 58 = true then (0, tE n b (h3 n b i).1.2) else (1, tS n b (h3 n b i).1.2)) else (h3 n b i).1) else (h2 n b i).1) else (h1 n b i).1) else (h0 n b i).1
theorem wN_cases {n i w : Nat} {b : Nat → Int32} {lo hi : Int32} (hin : i ≤ n) (hlo : ¬ lo < 0) : ((wN n b i w lo hi).1.1 = 0 ∧ ¬ (wN n b i w lo hi).2 = -1 ∧ i < (wN n b i w lo hi).1.2 ∧ (wN n b i w lo hi).1.2 ≤ n ∧ isW n b i w = true ∧ isN n b (tE n b i) ∧ (wN n b i w lo hi).1.2 = tE n b (tE n b i) ∧ (wN n b i w lo hi).2 = tV n b (tE n b i) ∧ ¬ tV n b (tE n b i) < lo ∧ ¬ hi < tV n b (tE n b i)) ∨ (¬ (wN n b i w lo hi).1.1 = 0 ∧ (wN n b i w lo hi).2 = -1) := by
  have hle := tE_le (b := b) hin
  have hle2 := tE_le (b := b) hle.2
  by_cases c1 : isW n b i w = true
  · have hgt := isW_gt hin c1
    by_cases c2 : tK n b (tE n b i) = 3 ∧ tE n b (tE n b i) - tS n b (tE n b i) ≤ 5
    · by_cases c3 : tV n b (tE n b i) < lo ∨ hi < tV n b (tE n b i)
      · have e : wN n b i w lo hi = ((2, tS n b (tE n b i)), -1) := by unfold wN; rw [if_pos c1, if_pos c2, if_pos c3]
        rw [e]
        exact Or.inr ⟨i2n0, rfl⟩
      · have e : wN n b i w lo hi = ((0, tE n b (tE n b i)), tV n b (tE n b i)) := by unfold wN; rw [if_pos c1, if_pos c2, if_neg c3]
        rw [e]
        refine Or.inl ⟨rfl, fun q => ?_, ?_, hle2.2, c1, c2, rfl, rfl, fun q => c3 (Or.inl q), fun q => c3 (Or.inr q)⟩
        · have q : tV n b (tE n b i) = -1 := q
          rw [q] at c3
          refine c3 (Or.inl ?_)
          rcases Int32.lt_or_le (-1) lo with h | h
          · exact h
          · exfalso
            have h1 : (0 : Int32) ≤ lo := Int32.not_lt.mp hlo
            exact absurd (Int32.le_trans h1 h) (by decide)
        · show i < tE n b (tE n b i)
          have := tS_le (b := b) hle.2
          omega
    · have e : wN n b i w lo hi = ((1, tS n b (tE n b i)), -1) := by unfold wN; rw [if_pos c1, if_neg c2]
      rw [e]
      exact Or.inr ⟨i1n0, rfl⟩
  · have e : wN n b i w lo hi = ((1, tS n b i), -1) := by unfold wN; rw [if_neg c1]
    rw [e]
    exact Or.inr ⟨i1n0, rfl⟩
/-- reading the head into ask x -/
def RH (σ σ' : AS) (x : Nat) : Prop := sameK (fun c => c ≠ 2 ∧ c ≠ 10) σ σ' ∧ (∀ c, cnt σ' c = cnt σ c) ∧ (∀ c f i, gR σ' c f i = gR σ c f i) ∧ (∀ c i, gN σ' c i = gN σ c i) ∧ (∀ f i, ¬ (i = x ∧ 1 ≤ f ∧ f ≤ 4) → gI σ' 2 f i = gI σ 2 f i)
theorem RH.tr {σ1 σ2 : AS} {x : Nat} (h : RH σ σ1 x) (k : RH σ1 σ2 x) : RH σ σ2 x := ⟨h.1.tr k.1, fun c => (k.2.1 c).trans (h.2.1 c), fun c f i => (k.2.2.1 c f i).trans (h.2.2.1 c f i), fun c i => (k.2.2.2.1 c i).trans (h.2.2.2.1 c i), fun f i z => (k.2.2.2.2 f i z).trans (h.2.2.2.2 f i z)⟩
theorem RH.of {σ' : AS} {x : Nat} (h : sameK (fun c => c ≠ 10) σ σ') (k : RF σ σ') : RH σ σ' x := ⟨h.sub (fun c hc => hc.2), k.2.1, k.2.2.1, k.2.2.2.1, fun f i _ => (h 2 (by decide)).2.1 f i⟩
theorem RH.set {x f : Nat} {v : Int32} (h1 : 1 ≤ f) (h4 : f ≤ 4) : RH σ (sI σ 2 f x v) x := ⟨fun c hc => eqK_sI hc.1, fun _ => rfl, fun _ _ _ => rfl, fun _ _ => rfl, fun g i z => by rw [gI_sI, if_neg (fun e => z ⟨e.2.2, by omega, by omega⟩)]⟩
theorem RH.st {σ' : AS} {x : Nat} (h : RH σ σ' x) (hS : St σ) : St σ' := hS.of fun c _ => ⟨fun f i _ => h.2.2.1 c f i, fun i _ => h.2.2.2.1 c i, Nat.le_of_eq (h.2.1 c).symm⟩
theorem RH.rw {σ' : AS} {x r n : Nat} {b : Nat → Int32} (h : RH σ σ' x) (k : RW σ r n b) : RW σ' r n b := k.same h.1 (by decide) (by decide)
/-- amid a head: token j stands here; ask x's numbers up to field f are set -/
def MidH (σ σ' : AS) (x n : Nat) (b : Nat → Int32) (j : Nat) : Prop := RH σ σ' x ∧ St σ' ∧ RW σ' 0 n b ∧ Tok σ' n b j ∧ gI σ' 10 0 0 = gI σ 10 0 0 ∧ gI σ' 10 1 0 = gI σ 10 1 0
theorem tok_sI {n j x f : Nat} {b : Nat → Int32} {v : Int32} (h : Tok σ n b j) : Tok (sI σ 2 f x v) n b j := ⟨by rw [gI_o (fun e => absurd e.1 (by decide))]; exact h.1, by rw [gI_o (fun e => absurd e.1 (by decide))]; exact h.2.1, by rw [gI_o (fun e => absurd e.1 (by decide))]; exact h.2.2.1, by rw [gI_o (fun e => absurd e.1 (by decide))]; exact h.2.2.2⟩
theorem c_head1 {σ1 : AS} {x n j w f : Nat} {b : Nat → Int32} {lo hi : Int32} (hlo : ¬ lo < 0) (hf1 : 1 ≤ f) (hf4 : f ≤ 4) (M : MidH σ σ1 x n b j) (hj : j ≤ n)
    (h1 : (wN n b j w lo hi).1.1 = 0 → ∀ σ2, Pass σ1 σ2 n b (wN n b j w lo hi) → MidH σ (sI σ2 2 f x (wN n b j w lo hi).2) x n b (wN n b j w lo hi).1.2 → post (some (xI (wN n b j w lo hi).2)) σ2)
    (h0 : ¬ (wN n b j w lo hi).1.1 = 0 → ∀ σ2, RH σ (sI σ2 2 f x (wN n b j w lo hi).2) x → St σ2 → RW (sI σ2 2 f x (wN n b j w lo hi).2) 0 n b → gI (sI σ2 2 f x (wN n b j w lo hi).2) 10 0 0 = (wN n b j w lo hi).1.1 → gI (sI σ2 2 f x (wN n b j w lo hi).2) 10 1 0 = nI (wN n b j w lo hi).1.2 → post (some (xI (wN n b j w lo hi).2)) σ2) : AMet G l M_X9_passNumberAfter (d + 6) 0 0 [xR (some (10, 0)), xR (some (30, w)), xI lo, xI hi] σ1 post := by
  obtain ⟨m1, m2, m3, m4, m5, m6⟩ := M
  refine c_wN m2 m3 hj m4 (fun σ2 P => ?_)
  have P0 := P
  obtain ⟨p1, p2, p3, p4, p5⟩ := P
  have T : RH σ (sI σ2 2 f x (wN n b j w lo hi).2) x := m1.tr ((RH.of p1 p2).tr (RH.set hf1 hf4))
  have R : RW (sI σ2 2 f x (wN n b j w lo hi).2) 0 n b := p4.same (P := fun c => c ≠ 2) (fun c hc => eqK_sI hc) (by decide) (by decide)
  have g : ∀ f' i', gI (sI σ2 2 f x (wN n b j w lo hi).2) 10 f' i' = gI σ2 10 f' i' := fun f' i' => gI_o (fun e => absurd e.1 (by decide))
  rcases p5 with ⟨q1, q2, q3, q4, q5⟩ | ⟨q1, q2, q3⟩
  · exact h1 q1 σ2 P0 ⟨T, p3.sI, R, tok_sI q2, (g 0 0).trans (q4.trans m5), (g 1 0).trans (q5.trans m6)⟩
  · exact h0 q1 σ2 T p3 R ((g 0 0).trans q2) ((g 1 0).trans q3)
theorem c_readHead {x n i : Nat} {b : Nat → Int32} (hS : St σ) (hR : RW σ 0 n b) (hi : i ≤ n) (hT : Tok σ n b i)
    (k1 : (hd n b i).1 = 0 → ∀ σ', MidH σ σ' x n b (hd n b i).2 → (hd n b i).2 ≤ n → i < (hd n b i).2 → gI σ' 2 1 x = (h0 n b i).2 → gI σ' 2 2 x = (h1 n b i).2 → gI σ' 2 3 x = (h2 n b i).2 → gI σ' 2 4 x = (h3 n b i).2 → post (some (xI 1)) σ')
    (k0 : ¬ (hd n b i).1 = 0 → ∀ σ', RH σ σ' x → St σ' → RW σ' 0 n b → gI σ' 10 0 0 = (hd n b i).1 → gI σ' 10 1 0 = nI (hd n b i).2 → post (some (xI 0)) σ') : AMet G l M_X2_readHead (d + 7) 0 0 [xR (some (3, 0)), xR (some (2, x))] σ post := by
  have M0 : MidH σ σ x n b i := ⟨⟨sameK.rf, fun _ => rfl, fun _ _ _ => rfl, fun _ _ => rfl, fun _ _ _ => rfl⟩, hS, hR, hT, rfl, rfl⟩
  have C0 := wN_cases (b := b) (w := 0) (lo := 0) (hi := 19) hi (by decide)
  refine AMet.of rfl (Nat.le_of_ble_eq_true rfl) (vc_X2_readHead (d := d + 6) hS (c_head1 (w := 0) (f := 1) (by decide) (by decide) (by decide) M0 hi (fun z0 σ1 P1 M1 => ?_) (fun z σ' a1 a2 a3 a4 a5 => ?_)))
  rotate_left
  · have e : hd n b i = (h0 n b i).1 := by unfold hd; rw [if_neg (show ¬ (h0 n b i).1.1 = 0 from z)]
    rcases C0 with C0 | C0
    · exact absurd C0.1 z
    · rw [e] at k0
      exact ⟨a2, fun c => absurd C0.2 c, fun _ => k0 z _ a1 a2.sI a3 a4 a5⟩
  rcases C0 with C0 | C0
  rotate_left
  · exact absurd z0 C0.1
  have z0 : (h0 n b i).1.1 = 0 := z0
  have C1 := wN_cases (b := b) (i := (h0 n b i).1.2) (w := 1) (lo := 0) (hi := 1439) C0.2.2.2.1 (by decide)
  have s0 : gI (sI σ1 2 1 x (h0 n b i).2) 2 1 x = (h0 n b i).2 := gI_self
  refine ⟨P1.2.2.1, fun _ => c_head1 (w := 1) (f := 2) (by decide) (by decide) (by decide) M1 C0.2.2.2.1 (fun z1 σ2 P2 M2 => ?_) (fun z σ' a1 a2 a3 a4 a5 => ?_), fun c => absurd c C0.2.1⟩
  rotate_left
  · have e : hd n b i = (h1 n b i).1 := by unfold hd; rw [if_pos z0, if_neg (show ¬ (h1 n b i).1.1 = 0 from z)]
    rcases C1 with C1 | C1
    · exact absurd C1.1 z
    · rw [e] at k0
      exact ⟨a2, fun c => absurd C1.2 c, fun _ => k0 z _ a1 a2.sI a3 a4 a5⟩
  rcases C1 with C1 | C1
  rotate_left
  · exact absurd z1 C1.1
  have z1 : (h1 n b i).1.1 = 0 := z1
  have C2 := wN_cases (b := b) (i := (h1 n b i).1.2) (w := 2) (lo := 1) (hi := 600) C1.2.2.2.1 (by decide)
  have s1 : gI (sI σ2 2 2 x (h1 n b i).2) 2 1 x = (h0 n b i).2 := by rw [gI_o (by omega), (P2.1 2 (by decide)).2.1]; exact s0
  have s2 : gI (sI σ2 2 2 x (h1 n b i).2) 2 2 x = (h1 n b i).2 := gI_self
  refine ⟨P2.2.2.1, fun _ => c_head1 (w := 2) (f := 3) (by decide) (by decide) (by decide) M2 C1.2.2.2.1 (fun z2 σ3 P3 M3 => ?_) (fun z σ' a1 a2 a3 a4 a5 => ?_), fun c => absurd c C1.2.1⟩
  rotate_left
  · have e : hd n b i = (h2 n b i).1 := by unfold hd; rw [if_pos z0, if_pos z1, if_neg (show ¬ (h2 n b i).1.1 = 0 from z)]
    rcases C2 with C2 | C2
    · exact absurd C2.1 z
    · rw [e] at k0
      exact ⟨a2, fun c => absurd C2.2 c, fun _ => k0 z _ a1 a2.sI a3 a4 a5⟩
  rcases C2 with C2 | C2
  rotate_left
  · exact absurd z2 C2.1
  have z2 : (h2 n b i).1.1 = 0 := z2
  have C3 := wN_cases (b := b) (i := (h2 n b i).1.2) (w := 3) (lo := 1) (hi := 8) C2.2.2.2.1 (by decide)
  have t1 : gI (sI σ3 2 3 x (h2 n b i).2) 2 1 x = (h0 n b i).2 := by rw [gI_o (by omega), (P3.1 2 (by decide)).2.1]; exact s1
  have t2 : gI (sI σ3 2 3 x (h2 n b i).2) 2 2 x = (h1 n b i).2 := by rw [gI_o (by omega), (P3.1 2 (by decide)).2.1]; exact s2
  have t3 : gI (sI σ3 2 3 x (h2 n b i).2) 2 3 x = (h2 n b i).2 := gI_self
  refine ⟨P3.2.2.1, fun _ => c_head1 (w := 3) (f := 4) (by decide) (by decide) (by decide) M3 C2.2.2.2.1 (fun z3 σ4 P4 M4 => ?_) (fun z σ' a1 a2 a3 a4 a5 => ?_), fun c => absurd c C2.2.1⟩
  rotate_left
  · have e : hd n b i = (h3 n b i).1 := by unfold hd; rw [if_pos z0, if_pos z1, if_pos z2, if_neg (show ¬ (h3 n b i).1.1 = 0 from z)]
    rcases C3 with C3 | C3
    · exact absurd C3.1 z
    · rw [e] at k0
      exact ⟨a2, fun _ => k0 z _ a1 a2.sI a3 a4 a5, fun c => absurd C3.2 c⟩
  rcases C3 with C3 | C3
  rotate_left
  · exact absurd z3 C3.1
  have z3 : (h3 n b i).1.1 = 0 := z3
  have r1 : gI (sI σ4 2 4 x (h3 n b i).2) 2 1 x = (h0 n b i).2 := by rw [gI_o (by omega), (P4.1 2 (by decide)).2.1]; exact t1
  have r2 : gI (sI σ4 2 4 x (h3 n b i).2) 2 2 x = (h1 n b i).2 := by rw [gI_o (by omega), (P4.1 2 (by decide)).2.1]; exact t2
  have r3 : gI (sI σ4 2 4 x (h3 n b i).2) 2 3 x = (h2 n b i).2 := by rw [gI_o (by omega), (P4.1 2 (by decide)).2.1]; exact t3
  have r4 : gI (sI σ4 2 4 x (h3 n b i).2) 2 4 x = (h3 n b i).2 := gI_self
  obtain ⟨m1, m2, m3, m4, m5, m6⟩ := M4
  have hj : (h3 n b i).1.2 ≤ n := C3.2.2.2.1
  have hle := tE_le (b := b) hj
  have o1 : i < (h0 n b i).1.2 := C0.2.2.1
  have o2 : (h0 n b i).1.2 < (h1 n b i).1.2 := C1.2.2.1
  have o3 : (h1 n b i).1.2 < (h2 n b i).1.2 := C2.2.2.1
  have o4 : (h2 n b i).1.2 < (h3 n b i).1.2 := C3.2.2.1
  refine ⟨P4.2.2.1, fun c => absurd c C3.2.1, fun _ => c_passSign m2 m3 hj m4 (fun g => ?_) (fun g σ5 T5 t5 => ?_)⟩
  · have e : hd n b i = (1, tS n b (h3 n b i).1.2) := by unfold hd; rw [if_pos z0, if_pos z1, if_pos z2, if_pos z3, if_neg (by rw [g]; decide)]
    rw [e] at k0
    refine ⟨fun _ => k0 i1n0 _ (m1.tr (RH.of (fun c hc => (eqK_sI hc).tr (eqK_sI hc)) fail_rfr)) (fail_rfr.st m2) (fail_rfr.rw m2 (by decide) (by decide) m3) ?_ ?_, fun c => absurd rfl c⟩
    · unfold FailS; rw [gI_o (by decide), gI_self]
    · unfold FailS; rw [gI_self]; exact m4.2.1
  · have e : hd n b i = (0, tE n b (h3 n b i).1.2) := by unfold hd; rw [if_pos z0, if_pos z1, if_pos z2, if_pos z3, if_pos g]
    rw [e] at k1
    have q := (T5.1 2 (by decide)).2.1
    have hgt := isG_gt hj g
    exact ⟨fun c => absurd c (by decide), fun _ => k1 rfl σ5 ⟨m1.tr (RH.of T5.1 T5.rfr), T5.st m2, T5.rw m3, t5, T5.2.2.2.2.1.trans m5, T5.2.2.2.2.2.trans m6⟩ hle.2 (by show i < tE n b (h3 n b i).1.2; omega) ((q 1 x).trans r1) ((q 2 x).trans r2) ((q 3 x).trans r3) ((q 4 x).trans r4)⟩
theorem c_askInit {x : Nat} {v : Int32} (hk : 1 ≤ kk) (h : post none (sI (sR (nA σ 25 0) 2 5 x (some (25, cnt σ 25))) 2 0 x v)) : AMet G l M_X1_init (d + 1) kk nn [xR (some (2, x)), xI v] σ post :=
  AMet.of rfl (Nat.le_of_ble_eq_true rfl) (vc_X1_init ⟨kk - 1, nn, by omega, by omega, h⟩)
/-- ask x's steps are a copy of the m numbers bS -/
def TSt (σ σ' : AS) (x m : Nat) (bS : Nat → Int32) : Prop := sameK (fun c => c ≠ 2 ∧ c ≠ 25) σ σ' ∧ cnt σ' 2 = cnt σ 2 ∧ (∀ f i, gI σ' 2 f i = gI σ 2 f i) ∧ (∀ f i, gR σ' 2 f i = if f = 5 ∧ i = x then some (25, cnt σ 25) else gR σ 2 f i) ∧ cnt σ' 25 = cnt σ 25 + 1 ∧ gN σ' 25 (cnt σ 25) = m ∧ (∀ j, j < m → gA σ' 25 (cnt σ 25) j = bS j) ∧ oldK σ σ' 25
theorem a_takeSteps {x r m a : Nat} {bS : Nat → Int32} (hm : m < 2000000) : ∀ (f v : Nat) (σ1 : AS), m - v = f → v ≤ m → RW σ1 r m bS → gR σ1 2 5 x = some (25, a) → gN σ1 25 a = m → (∀ j, j < v → gA σ1 25 a j = bS j) →
    (∀ σ', sameK (fun c => c ≠ 25) σ1 σ' → cnt σ' 25 = cnt σ1 25 → (∀ f i, gI σ' 25 f i = gI σ1 25 f i) → (∀ f i, gR σ' 25 f i = gR σ1 25 f i) → (∀ i, gN σ' 25 i = gN σ1 25 i) → (∀ i j, i ≠ a → gA σ' 25 i j = gA σ1 25 i j) → (∀ i j, gQ σ' 25 i j = gQ σ1 25 i j) → (∀ i j, gL σ' 25 i j = gL σ1 25 i j) → (∀ j, j < m → gA σ' 25 a j = bS j) → post none σ') →
    AW G l M_X1_takeSteps (d + 1) post σ1 kk nn 16 [some (xR (some (2, x))), some (xR (some (8, r))), some (xI (nI v))] [] := by
  intro f
  induction f with
  | zero =>
    intro v σ1 hf hv hR h5 hN hA h
    refine vc_X1_takeSteps_16 ⟨a, h5, fun _ => h σ1 sameK.rf rfl (fun _ _ => rfl) (fun _ _ => rfl) (fun _ => rfl) (fun _ _ _ => rfl) (fun _ _ => rfl) (fun _ _ => rfl) (fun j hj => hA j (by omega)), fun c => ?_⟩
    rw [hN] at c
    exact absurd (nI_le (by omega) (by omega)) c
  | succ f ih =>
    intro v σ1 hf hv hR h5 hN hA h
    refine vc_X1_takeSteps_16 ⟨a, h5, fun c => ?_, fun c => c_at hR (by omega) ⟨?_, ?_⟩⟩
    · rw [hN] at c
      exact absurd ((nI_leI (by omega) (by omega)).mp c) (by omega)
    · rw [hN]; exact vp_in_nI (by omega) (by omega)
    · rw [nI_1, nI_clamp (by omega), rAt, if_pos (by omega)]
      refine ih (v + 1) _ (by omega) (by omega) (hR.same (P := fun c => c ≠ 25) (fun c hc => eqK_sA hc) (by decide) (by decide)) h5 hN (fun j hj => ?_) (fun σ' e1 e2 e3 e4 e5 e6 e7 e8 e9 => h σ' (sameK.tr (fun c hc => eqK_sA hc) e1) e2 e3 e4 e5 (fun i j hi => ?_) e7 e8 e9)
      · rw [gA_sA]
        by_cases q : j = v
        · rw [if_pos ⟨rfl, rfl, q⟩, q]
        · rw [if_neg (fun z => q z.2.2)]
          exact hA j (by omega)
      · rw [e6 i j hi, gA_sA, if_neg (fun z => hi z.2.1)]
theorem c_takeSteps {x r m : Nat} {bS : Nat → Int32} (hR : RW σ r m bS) (hk : 1 ≤ kk) (hn : m ≤ nn) (h : ∀ σ', TSt σ σ' x m bS → post none σ') : AMet G l M_X1_takeSteps (d + 1) kk nn [xR (some (2, x)), xR (some (8, r))] σ post := by
  have hm := hR.lt
  have e : (if (gI σ 8 1 r) < 0 then 0 else (gI σ 8 1 r)) = nI m := by
    rw [hR.size, if_neg (nI_pos (by omega))]
  refine AMet.of rfl (Nat.le_of_ble_eq_true rfl) (vc_X1_takeSteps ⟨m, kk - 1, nn - m, ?_, ?_, by omega, by omega, by omega, ?_⟩)
  · rw [e]; exact nI_clamp (by omega)
  · rw [e]; exact nI_pos (by omega)
  · have q0 : (0 : Int32) = nI 0 := nI_0.symm
    rw [q0]
    refine a_takeSteps (a := cnt σ 25) (m := m) (bS := bS) hm m 0 _ (by omega) (by omega) ?_ ?_ ?_ (fun j hj => absurd hj (by omega)) (fun σ' e1 e2 e3 e4 e5 e6 e7 e8 e9 => h σ' ⟨?_, ?_, ?_, ?_, ?_, ?_, e9, ?_⟩)
    · exact hR.same (P := fun c => c ≠ 2 ∧ c ≠ 25) (fun c hc => (eqK_nA hc.2).tr (eqK_sR hc.1)) (by decide) (by decide)
    · exact gR_self
    · rw [gN_sR, gN_nA, if_pos ⟨rfl, rfl⟩]
    · exact fun c hc => ((eqK_nA hc.2).tr (eqK_sR hc.1)).tr (e1 c hc.2)
    · rw [(e1 2 (by decide)).1, cnt_sR, cnt_nA, if_neg (by decide)]
    · intro f i
      rw [(e1 2 (by decide)).2.1, gI_sR, gI_nA, if_neg (fun z => absurd z.1 (by decide))]
    · intro f i
      rw [(e1 2 (by decide)).2.2.1, gR_sR, gR_nA]
      by_cases q : f = 5 ∧ i = x
      · rw [if_pos ⟨rfl, q.1, q.2⟩, if_pos q]
      · rw [if_neg (fun z => q z.2), if_neg q, if_neg (fun z => absurd z.1 (by decide))]
    · rw [e2, cnt_sR, cnt_nA, if_pos rfl]
    · rw [e5, gN_sR, gN_nA, if_pos ⟨rfl, rfl⟩]
    · refine ⟨by rw [e2, cnt_sR, cnt_nA, if_pos rfl]; omega, fun i hi => ?_⟩
      have q := (oldK_nA (σ := σ) (c := 25) (n := m)).2 i hi
      obtain ⟨a1, a2, a3, a4, a5, a6⟩ := q
      exact ⟨fun g => (e3 g i).trans (a1 g), fun g => (e4 g i).trans (by rw [gR_sR, if_neg (fun z => absurd z.1 (by decide))]; exact a2 g), (e5 i).trans a3, fun j => (e6 i j (by omega)).trans (a4 j), fun j => (e7 i j).trans (a5 j), fun j => (e8 i j).trans (a6 j)⟩
end HEAD
