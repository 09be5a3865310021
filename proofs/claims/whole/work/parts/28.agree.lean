/-! Agreements, read. -/
section AGREE
variable {G : GG} {l : Launch} {d : Nat} {post : Option AVal → AS → Prop} {σ : AS} {kk nn : Nat}
def rt (n : Nat) (b : Nat → Int32) (i : Nat) : Out := if tmK n b i = -1 then (1, tS n b i) else if (tmo n b (tE n b i) (tmK n b i)).1 = 0 then (if isG n b (tmo n b (tE n b i) (tmK n b i)).2 59 = true then (0, tE n b (tmo n b (tE n b i) (tmK n b i)).2) else (1, tS n b (tmo n b (tE n b i) (tmK n b i)).2)) else tmo n b (tE n b i) (tmK n b i)
def rallT (n : Nat) (b : Nat → Int32) : Nat → Nat → Nat → Nat × Out
  | 0, k, i => if tK n b i = 0 then (k, (0, i)) else (k, if tmK n b i = -1 then (1, tS n b i) else (2, tS n b i))
  | f + 1, k, i => if tK n b i = 0 then (k, (0, i)) else if (rt n b i).1 = 0 then rallT n b f (k + 1) (rt n b i).2 else (k, rt n b i)
def ipT (n : Nat) (b : Nat → Int32) : Nat → Nat
  | 0 => 0
  | k + 1 => (rt n b (ipT n b k)).2
def TermR (σ : AS) (x n : Nat) (b : Nat → Int32) (i : Nat) : Prop := gI σ 9 0 x = tmK n b i ∧ gI σ 9 1 x = tmM n b (tE n b i) (tmK n b i) ∧ gI σ 9 2 x = tmN n b (tE n b i) (tmK n b i) ∧ gI σ 9 3 x = tmU n b (tE n b i) (tmK n b i)
/-- what reading an agreement leaves alone -/
def GF (a0 q0 : Nat) (σ σ' : AS) : Prop := sameK (fun c => c ≠ 0 ∧ c ≠ 9 ∧ c ≠ 10 ∧ c ≠ 23) σ σ' ∧ oldO a0 σ σ' 9 ∧ (cnt σ' 10 = cnt σ 10 ∧ (∀ f i, gR σ' 10 f i = gR σ 10 f i) ∧ ∀ i, gN σ' 10 i = gN σ 10 i) ∧ LF q0 σ σ'
theorem GF.tr {a0 q0 : Nat} {σ1 σ2 : AS} (h : GF a0 q0 σ σ1) (k : GF a0 q0 σ1 σ2) : GF a0 q0 σ σ2 := ⟨h.1.tr k.1, h.2.1.tr k.2.1, ⟨k.2.2.1.1.trans h.2.2.1.1, fun f i => (k.2.2.1.2.1 f i).trans (h.2.2.1.2.1 f i), fun i => (k.2.2.1.2.2 i).trans (h.2.2.1.2.2 i)⟩, h.2.2.2.tr k.2.2.2⟩
theorem GF.mono {a0 q0 a1 q1 : Nat} {σ1 : AS} (h : GF a0 q0 σ σ1) (ka : a1 ≤ a0) (kq : q1 ≤ q0) : GF a1 q1 σ σ1 := ⟨h.1, h.2.1.mono ka, h.2.2.1, h.2.2.2.mono kq⟩
theorem GF.rf {a0 q0 : Nat} : GF a0 q0 σ σ := ⟨sameK.rf, eqK.rf.oldO, ⟨rfl, fun _ _ => rfl, fun _ => rfl⟩, LF.same sameK.rf⟩
theorem GF.of10 {a0 q0 : Nat} {σ' : AS} (h : sameK (fun c => c ≠ 10) σ σ') (k : RF σ σ') : GF a0 q0 σ σ' := ⟨h.sub (fun c hc => hc.2.2.1), (h 9 (by decide)).oldO, ⟨k.2.1 10, k.2.2.1 10, k.2.2.2.1 10⟩, LF.same (h.sub (fun c hc => by rcases hc with rfl | rfl <;> decide))⟩
theorem GF.of9 {a0 q0 : Nat} {σ' : AS} (h : sameK (fun c => c ≠ 9) σ σ') (k : oldO a0 σ σ' 9) : GF a0 q0 σ σ' := ⟨h.sub (fun c hc => hc.2.1), k, ⟨(h 10 (by decide)).1, (h 10 (by decide)).2.2.1, (h 10 (by decide)).2.2.2.1⟩, LF.same (h.sub (fun c hc => by rcases hc with rfl | rfl <;> decide))⟩
theorem GF.ofRK {a0 q0 x : Nat} {σ' : AS} (h : RK 9 σ σ' x) (hx : a0 ≤ x) : GF a0 q0 σ σ' := ⟨h.1.sub (fun c hc => ⟨hc.2.1, hc.2.2.1⟩), ⟨Nat.le_of_eq (h.2.1 9).symm, fun i hi => ⟨fun f => h.2.2.2.2 f i (by omega), fun f => h.2.2.1 9 f i⟩⟩, ⟨h.2.1 10, h.2.2.1 10, h.2.2.2.1 10⟩, LF.same (h.1.sub (fun c hc => by rcases hc with rfl | rfl <;> decide))⟩
theorem GF.ofAdd {a0 q0 q : Nat} {σ' : AS} (h : LAdd σ σ' q) (hq : q0 ≤ q) (h0 : q0 ≤ cnt σ 0) : GF a0 q0 σ σ' := ⟨h.1.sub (fun c hc => ⟨hc.1, hc.2.2.2⟩), (h.1 9 (by decide)).oldO, ⟨(h.1 10 (by decide)).1, (h.1 10 (by decide)).2.2.1, (h.1 10 (by decide)).2.2.2.1⟩, ⟨Nat.le_of_eq h.2.1.symm, fun _ => h.2.2.1, fun q' n e hq' z => h.2.2.2.1 q' n e (by omega) (by omega) z, fun q' hq' => h.2.2.2.2 q' (by omega) (by omega)⟩⟩
theorem GF.st {a0 q0 : Nat} {σ' : AS} (h : GF a0 q0 σ σ') (hS : St σ) : St σ' := hS.of fun c hc => by
  by_cases h1 : c = 10
  · subst h1
    exact ⟨fun f i _ => h.2.2.1.2.1 f i, fun i _ => h.2.2.1.2.2 i, Nat.le_of_eq h.2.2.1.1.symm⟩
  · have k := h.1 c (by
      unfold stKind at hc
      refine ⟨?_, ?_, h1, ?_⟩ <;> (intro e; subst e; revert hc; decide))
    exact ⟨fun f i _ => k.2.2.1 f i, fun i _ => k.2.2.2.1 i, Nat.le_of_eq k.1.symm⟩
theorem GF.rw {a0 q0 r n : Nat} {b : Nat → Int32} {σ' : AS} (h : GF a0 q0 σ σ') (k : RW σ r n b) : RW σ' r n b := k.same h.1 (by decide) (by decide)
/-- amid an agreement whose terms' list is q: k terms are read -/
def MidG (σ σ' : AS) (q n : Nat) (b : Nat → Int32) (k : Nat) : Prop := GF (cnt σ 9) q σ σ' ∧ cnt σ' 0 = cnt σ 0 ∧ cnt σ' 9 = cnt σ 9 + k ∧ LW σ' ∧ AL σ' q k (fun j => (9, cnt σ 9 + j)) ∧ lcap σ' q = (if k = 0 then 0 else 10) ∧ RW σ' 0 n b ∧ Tok σ' n b (ipT n b k) ∧ ipT n b k ≤ n ∧ gI σ' 10 0 0 = 0 ∧ gI σ' 10 1 0 = -1 ∧ ∀ j, j < k → TermR σ' (cnt σ 9 + j) n b (ipT n b j)
def BadG (σ σ' : AS) (q n : Nat) (b : Nat → Int32) (o : Out) : Prop := GF (cnt σ 9) q σ σ' ∧ LW σ' ∧ RW σ' 0 n b ∧ gI σ' 10 0 0 = o.1 ∧ gI σ' 10 1 0 = nI o.2
theorem TermR.keep {a0 q0 x n i : Nat} {b : Nat → Int32} {σ' : AS} (h : TermR σ x n b i) (F : GF a0 q0 σ σ') (hx : x < a0) : TermR σ' x n b i := by
  obtain ⟨k1, k2, k3, k4⟩ := h
  obtain ⟨g1, g2⟩ := F.2.1.2 x hx
  exact ⟨(g1 0).trans k1, (g1 1).trans k2, (g1 2).trans k3, (g1 3).trans k4⟩
theorem a_readFrom {x q n : Nat} {b : Nat → Int32} (hSσ : St σ) (hx : gR σ 1 1 x = some (0, q)) (hq : q + 1 = cnt σ 0) : ∀ (f k : Nat), k + f = 8 → ∀ (σ1 : AS) (kk nn : Nat), St σ1 → MidG σ σ1 q n b k → 2 * (9 - k) ≤ kk → 14 * (9 - k) ≤ nn →
    (∀ σ' K, MidG σ σ' q n b K → St σ' → K ≤ 8 → rallT n b f k (ipT n b k) = (K, (0, ipT n b K)) → post (some (xI 1)) σ') →
    (∀ σ' K o, rallT n b f k (ipT n b k) = (K, o) → ¬ o.1 = 0 → St σ' → BadG σ σ' q n b o → post (some (xI 0)) σ') →
    AW G l M_X0_readFrom (d + 8) post σ1 kk nn 6 [some (xR (some (1, x))), some (xR (some (10, 0))), some (xI (nI k)), none] [] := by
  intro f
  induction f with
  | zero =>
    intro k hk σ1 kk nn hS M hkk hnn good bad
    have k8 : k = 8 := by omega
    subst k8
    have M0 := M
    obtain ⟨m1, m2, m3, m4, m5, m6, m7, m8, m9, m10, m11, m12⟩ := M
    refine vc_X0_readFrom_6 (d := d + 7) ⟨fun c => absurd ((nI_ltI (a := 8) (by decide) (by decide)).mp c) (by decide), fun _ => c_atEnd m8 (fun hne => ⟨fun c => absurd rfl c, fun _ => ⟨kk - 1, nn - 4, by omega, by omega, ?_⟩⟩) (fun h0 => ⟨fun _ => good σ1 8 M0 hS (by decide) (by rw [rallT, if_pos h0]), fun c => absurd c (by decide)⟩)⟩
    have F1 : GF (cnt σ1 9) q σ1 (nO σ1 9) := GF.of9 (fun c hc => eqK_nO hc) (oldO_new (Nat.le_refl _))
    have F2 : GF (cnt σ1 9) q σ1 (sI (nO σ1 9) 9 0 (cnt σ1 9) (tmK n b (ipT n b 8))) := F1.tr (GF.of9 (fun c hc => eqK_sI hc) (oldO_sI (Nat.le_refl _)))
    have T1 : TokK σ1 (nO σ1 9) := fun f => ((eqK_nO (by decide) : eqK σ1 (nO σ1 9) 10).2.1 f 0)
    have T2 : TokK σ1 (sI (nO σ1 9) 9 0 (cnt σ1 9) (tmK n b (ipT n b 8))) := fun f => (gI_o (fun e => absurd e.1 (by decide))).trans (T1 f)
    refine c_kindAt (F1.st hS) (F1.rw m7) m9 (T1.tok m8) (AMet.of rfl (Nat.le_of_ble_eq_true rfl) (vc_X8_init ?_))
    have fin : ∀ k', ¬ k' = 0 → rallT n b 0 8 (ipT n b 8) = (8, (k', tS n b (ipT n b 8))) → post (some (xI 0)) (FailS (sI (nO σ1 9) 9 0 (cnt σ1 9) (tmK n b (ipT n b 8))) k') := by
      intro k' h0 e
      have F3 : GF (cnt σ1 9) q σ1 (FailS (sI (nO σ1 9) 9 0 (cnt σ1 9) (tmK n b (ipT n b 8))) k') := F2.tr (GF.of10 (fun c hc => (eqK_sI hc).tr (eqK_sI hc)) fail_rfr)
      refine bad _ 8 _ e h0 (F3.st hS) ⟨m1.tr (F3.mono (by omega) (Nat.le_refl _)), F3.2.2.2.2.1 m4, F3.rw m7, ?_, ?_⟩
      · unfold FailS; rw [gI_o (by decide), gI_self]
      · unfold FailS; rw [gI_self]; exact (T2.tok m8).2.1
    refine ⟨fun c => ⟨fun c' => absurd rfl c', fun _ => c_fail ⟨by decide, ?_⟩⟩, fun c => c_fail ⟨by decide, ?_⟩⟩
    · rw [gI_self] at c
      exact fin 2 i2n0 (by rw [rallT, if_neg hne, if_neg c])
    · rw [gI_self] at c
      exact fin 1 i1n0 (by rw [rallT, if_neg hne, if_pos c])
  | succ f ih =>
    intro k hk σ1 kk nn hS M hkk hnn good bad
    have M0 := M
    obtain ⟨m1, m2, m3, m4, m5, m6, m7, m8, m9, m10, m11, m12⟩ := M
    refine vc_X0_readFrom_6 (d := d + 7) ⟨fun c => absurd ((nI_ltI (a := 8) (by decide) (by omega)).mp c) (by omega), fun _ => c_atEnd m8 (fun hne => ⟨fun c => absurd rfl c, fun _ => ⟨kk - 1, nn - 4, by omega, by omega, ?_⟩⟩) (fun h0 => ⟨fun _ => good σ1 k M0 hS (by omega) (by rw [rallT, if_pos h0]), fun c => absurd c (by decide)⟩)⟩
    have F1 : GF (cnt σ1 9) (q + 1) σ1 (nO σ1 9) := GF.of9 (fun c hc => eqK_nO hc) (oldO_new (Nat.le_refl _))
    have F2 : GF (cnt σ1 9) (q + 1) σ1 (sI (nO σ1 9) 9 0 (cnt σ1 9) (tmK n b (ipT n b k))) := F1.tr (GF.of9 (fun c hc => eqK_sI hc) (oldO_sI (Nat.le_refl _)))
    have T1 : TokK σ1 (nO σ1 9) := fun f => ((eqK_nO (by decide) : eqK σ1 (nO σ1 9) 10).2.1 f 0)
    have T2 : TokK σ1 (sI (nO σ1 9) 9 0 (cnt σ1 9) (tmK n b (ipT n b k))) := fun f => (gI_o (fun e => absurd e.1 (by decide))).trans (T1 f)
    refine c_kindAt (F1.st hS) (F1.rw m7) m9 (T1.tok m8) (AMet.of rfl (Nat.le_of_ble_eq_true rfl) (vc_X8_init ?_))
    have g9 : ∀ f', f' ≠ 0 → gI (sI (nO σ1 9) 9 0 (cnt σ1 9) (tmK n b (ipT n b k))) 9 f' (cnt σ1 9) = 0 := fun f' h => by
      rw [gI_o (fun e => h e.2.1), gI_nO, if_pos ⟨rfl, rfl⟩]
    have g90 : gI (sI (nO σ1 9) 9 0 (cnt σ1 9) (tmK n b (ipT n b k))) 9 0 (cnt σ1 9) = tmK n b (ipT n b k) := gI_self
    have c9 : cnt (sI (nO σ1 9) 9 0 (cnt σ1 9) (tmK n b (ipT n b k))) 9 = cnt σ1 9 + 1 := by rw [cnt_sI, cnt_nO, if_pos rfl]
    have c0 : cnt (sI (nO σ1 9) 9 0 (cnt σ1 9) (tmK n b (ipT n b k))) 0 = cnt σ1 0 := by rw [cnt_sI, cnt_nO, if_neg (by decide)]
    generalize sI (nO σ1 9) 9 0 (cnt σ1 9) (tmK n b (ipT n b k)) = σ2 at *
    have S2 := F2.st hS
    have R2 := F2.rw m7
    have K2 := T2.tok m8
    have B0 : gI σ2 10 0 0 = 0 := (T2 0).trans m10
    have B1 : gI σ2 10 1 0 = -1 := (T2 1).trans m11
    refine ⟨fun c => ⟨fun _ => ?_, fun c' => absurd ((nI_eq (b := 8) (by omega) (by decide)).mp c') (by omega)⟩, fun c => c_fail ⟨by decide, ?_⟩⟩
    rotate_left
    · rw [g90] at c
      have e : rt n b (ipT n b k) = (1, tS n b (ipT n b k)) := by unfold rt; rw [if_pos c]
      have F3 : GF (cnt σ1 9) (q + 1) σ1 (FailS σ2 1) := F2.tr (GF.of10 (fun c hc => (eqK_sI hc).tr (eqK_sI hc)) fail_rfr)
      refine bad _ k _ (by rw [rallT, if_neg hne, e, if_neg i1n0]) i1n0 (F3.st hS) ⟨m1.tr (F3.mono (by omega) (by omega)), F3.2.2.2.2.1 m4, F3.rw m7, ?_, ?_⟩
      · unfold FailS; rw [gI_o (by decide), gI_self]
      · unfold FailS; rw [gI_self]; exact K2.2.1
    rw [g90] at c
    have hle := tE_le (b := b) m9
    refine c_advance S2 R2 hle.2 K2.2.2.1 (fun σ3 T3 k3 => ?_)
    have F3 : GF (cnt σ1 9) (q + 1) σ1 σ3 := F2.tr (GF.of10 T3.1 T3.rfr)
    have q3 := (T3.1 9 (by decide)).2.1
    refine c_readNumbers (F3.st hS) (F3.rw m7) hle.2 k3 ((q3 0 _).trans g90) ((q3 1 _).trans (g9 1 (by decide))) ((q3 3 _).trans (g9 3 (by decide))) (fun z σ4 M4 y1 y2 v0 v1 v2 v3 => ⟨fun c' => absurd c' (by decide), fun _ => ?_⟩) (fun z σ4 B4 => ⟨fun _ => ?_, fun c' => absurd rfl c'⟩)
    rotate_left
    · have e : rt n b (ipT n b k) = tmo n b (tE n b (ipT n b k)) (tmK n b (ipT n b k)) := by unfold rt; rw [if_neg c, if_neg z]
      have F4 : GF (cnt σ1 9) (q + 1) σ1 σ4 := F3.tr (GF.ofRK B4.1 (Nat.le_refl _))
      exact bad _ k _ (by rw [rallT, if_neg hne, e, if_neg z]) z (F4.st hS) ⟨m1.tr (F4.mono (by omega) (by omega)), F4.2.2.2.2.1 m4, F4.rw m7, B4.2.2.2.1, B4.2.2.2.2⟩
    obtain ⟨n1, n2, n3, n4, n5, n6⟩ := M4
    have F4 : GF (cnt σ1 9) (q + 1) σ1 σ4 := F3.tr (GF.ofRK n1 (Nat.le_refl _))
    refine c_passSign n2 n3 y1 n4 (fun g => ⟨fun c' => absurd rfl c', fun _ => ?_⟩) (fun g σ5 T5 k5 => ⟨fun _ => ⟨q, ?_, 1, 10, kk - 2, nn - 14, by omega, by omega, ?_⟩, fun c' => absurd c' (by decide)⟩)
    · have e : rt n b (ipT n b k) = (1, tS n b (tmo n b (tE n b (ipT n b k)) (tmK n b (ipT n b k))).2) := by unfold rt; rw [if_neg c, if_pos z, if_neg (by rw [g]; decide)]
      have F5 : GF (cnt σ1 9) (q + 1) σ1 (FailS σ4 1) := F4.tr (GF.of10 (fun c hc => (eqK_sI hc).tr (eqK_sI hc)) fail_rfr)
      refine bad _ k _ (by rw [rallT, if_neg hne, e, if_neg i1n0]) i1n0 (F5.st hS) ⟨m1.tr (F5.mono (by omega) (by omega)), F5.2.2.2.2.1 m4, F5.rw m7, ?_, ?_⟩
      · unfold FailS; rw [gI_o (by decide), gI_self]
      · unfold FailS; rw [gI_self]; exact n4.2.1
    · have F5 : GF (cnt σ1 9) (q + 1) σ1 σ5 := F4.tr (GF.of10 T5.1 T5.rfr)
      have := (m1.tr (F5.mono (by omega) (by omega))).1 1 (by decide)
      rw [this.2.2.1]; exact hx
    have F5 : GF (cnt σ1 9) (q + 1) σ1 σ5 := F4.tr (GF.of10 T5.1 T5.rfr)
    have e : rt n b (ipT n b k) = (0, tE n b (tmo n b (tE n b (ipT n b k)) (tmK n b (ipT n b k))).2) := by unfold rt; rw [if_neg c, if_pos z, if_pos g]
    have eip : ipT n b (k + 1) = tE n b (tmo n b (tE n b (ipT n b k)) (tmK n b (ipT n b k))).2 := by show (rt n b (ipT n b k)).2 = _; rw [e]
    have er : rallT n b (f + 1) k (ipT n b k) = rallT n b f (k + 1) (ipT n b (k + 1)) := by
      rw [rallT, if_neg hne, if_pos (by rw [e])]; rfl
    rw [er] at good bad
    have hc0 : cnt σ5 0 = cnt σ1 0 := by rw [T5.rfr.2.1, n1.2.1, T3.rfr.2.1, c0]
    have hc9 : cnt σ5 9 = cnt σ1 9 + 1 := by rw [T5.rfr.2.1, n1.2.1, T3.rfr.2.1, c9]
    have hA5 : AL σ5 q k (fun j => (9, cnt σ 9 + j)) := F5.2.2.2.2.2.1 _ _ _ (by omega) m5
    have hl5 : lcap σ5 q = (if k = 0 then 0 else 10) := (F5.2.2.2.2.2.2 _ (by omega)).trans m6
    have hle5 := tE_le (b := b) y1
    refine c_add (F5.2.2.2.2.1 m4) (by omega) hA5 (by show 9 < 14; omega) (by omega) ?_ (fun σ6 D6 A6 l6 => ?_)
    · rw [hl5]
      by_cases h0 : k = 0
      · exact Or.inr ⟨Nat.le_refl _, by rw [h0]; decide⟩
      · rw [if_neg h0]; exact Or.inl (by omega)
    have F6 : GF (cnt σ1 9) q σ1 σ6 := (F5.mono (Nat.le_refl _) (by omega)).tr (GF.ofAdd D6 (Nat.le_refl _) (by omega))
    have S6 := F6.st hS
    have p9 := (D6.1 9 (by decide)).2.1
    have p10 := (D6.1 10 (by decide)).2.1
    have q5 := (T5.1 9 (by decide)).2.1
    rw [nI_1]
    refine ih (k + 1) (by omega) σ6 _ _ S6 ⟨m1.tr (F6.mono (by omega) (Nat.le_refl _)), ?_, ?_, F6.2.2.2.2.1 m4, ?_, ?_, F6.rw m7, ?_, ?_, ?_, ?_, fun j hj => ?_⟩ (by omega) (by omega) good bad
    · rw [D6.2.1, hc0]; exact m2
    · rw [(D6.1 9 (by decide)).1, hc9]; omega
    · obtain ⟨a, b1, b2, b3, b4, b5, b6⟩ := A6
      refine ⟨a, b1, b2, b3, b4, fun i hi => ?_, b6⟩
      rw [b5 i hi]
      show some (if i = k then (9, cnt σ1 9) else (9, cnt σ 9 + i)) = some (9, cnt σ 9 + i)
      by_cases w : i = k
      · rw [if_pos w, w, m3]
      · rw [if_neg w]
    · rw [l6, hl5, if_neg (Nat.succ_ne_zero k)]
      by_cases h0 : k = 0
      · rw [if_pos h0, if_neg (by omega), h0]; rfl
      · rw [if_neg h0, if_pos (by omega)]
    · rw [eip]
      exact (show TokK σ5 σ6 from fun f => p10 f 0).tok k5
    · rw [eip]; exact hle5.2
    · rw [p10, T5.2.2.2.2.1, n5, T3.2.2.2.2.1]; exact B0
    · rw [p10, T5.2.2.2.2.2, n6, T3.2.2.2.2.2]; exact B1
    · by_cases hjk : j < k
      · exact (m12 j hjk).keep F6 (by omega)
      · have hj : j = k := by omega
        subst hj
        rw [← m3]
        exact ⟨(p9 0 _).trans ((q5 0 _).trans v0), (p9 1 _).trans ((q5 1 _).trans v1), (p9 2 _).trans ((q5 2 _).trans v2), (p9 3 _).trans ((q5 3 _).trans v3)⟩
theorem c_begin2 {n : Nat} {b : Nat → Int32} (hS : St σ) (hR : RW σ 0 n b) (h : ∀ σ', sameK (fun c => c ≠ 10) σ σ' → RF σ σ' → St σ' → RW σ' 0 n b → Tok σ' n b 0 → gI σ' 10 0 0 = 0 → gI σ' 10 1 0 = -1 → post none σ') : AMet G l M_X9_begin (d + 2) 0 0 [xR (some (10, 0))] σ post := by
  have K : sameK (fun c => c ≠ 10) σ (sI (sI (sI σ 10 0 0 0) 10 1 0 (-1)) 10 5 0 0) := fun c hc => ((eqK_sI hc).tr (eqK_sI hc)).tr (eqK_sI hc)
  have F : RF σ (sI (sI (sI σ 10 0 0 0) 10 1 0 (-1)) 10 5 0 0) := ⟨K.sub (fun c hc => hc.2.1), fun _ => rfl, fun _ _ _ => rfl, fun _ _ => rfl, fun r _ => by rw [gI_o (fun e => absurd e.1 (by decide)), gI_o (fun e => absurd e.1 (by decide)), gI_o (fun e => absurd e.1 (by decide))], fun _ _ _ => rfl⟩
  have E : ∀ r m bS, RW σ r m bS → RW (sI (sI (sI σ 10 0 0 0) 10 1 0 (-1)) 10 5 0 0) r m bS := fun r m bS k => k.same K (by decide) (by decide)
  refine AMet.of rfl (Nat.le_of_ble_eq_true rfl) (vc_X9_begin (d := d + 1) (c_advance (F.st hS) (E 0 n b hR) (Nat.zero_le n) (by rw [gI_self, nI_0]) (fun σ' T k => ?_)))
  refine h σ' (K.tr T.1) (F.tr T.rfr) (T.st (F.st hS)) (T.rw (E 0 n b hR)) k ?_ ?_
  · rw [T.2.2.2.2.1, gI_o (by decide), gI_o (by decide), gI_self]
  · rw [T.2.2.2.2.2, gI_o (by decide), gI_self]
theorem c_readFrom {x q n : Nat} {b : Nat → Int32} (hS : St σ) (hW : LW σ) (hR : RW σ 0 n b) (hx : gR σ 1 1 x = some (0, q)) (hq : q + 1 = cnt σ 0) (hA : AL σ q 0 (fun j => (9, cnt σ 9 + j))) (hl : lcap σ q = 0) (hkk : 18 ≤ kk) (hnn : 126 ≤ nn)
    (good : ∀ σ' K, MidG σ σ' q n b K → St σ' → K ≤ 8 → rallT n b 8 0 0 = (K, (0, ipT n b K)) → post (some (xI 1)) σ')
    (bad : ∀ σ' K o, rallT n b 8 0 0 = (K, o) → ¬ o.1 = 0 → St σ' → BadG σ σ' q n b o → post (some (xI 0)) σ') : AMet G l M_X0_readFrom (d + 8) kk nn [xR (some (1, x)), xR (some (10, 0))] σ post := by
  refine AMet.of rfl (Nat.le_of_ble_eq_true rfl) (vc_X0_readFrom (d := d + 7) (c_begin2 hS hR (fun σ1 h10 F S R T f0 f1 => ?_)))
  have q0 : (0 : Int32) = nI 0 := nI_0.symm
  rw [q0]
  have F1 : GF (cnt σ 9) q σ σ1 := GF.of10 h10 F
  refine a_readFrom hS hx hq 8 0 rfl σ1 _ _ S ⟨F1, F.2.1 0, F.2.1 9, F1.2.2.2.2.1 hW, hA.same (h10.sub (fun c hc => by rcases hc with rfl | rfl <;> decide)), ?_, R, T, Nat.zero_le _, f0, f1, fun j hj => absurd hj (by omega)⟩ (by omega) (by omega) good bad
  rw [if_pos rfl, ← hl]
  exact lcap_eq (h10.sub (fun c hc => by rcases hc with rfl | rfl <;> decide))
end AGREE
