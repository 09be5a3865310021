/-! Lists: clear, and an element put in between. -/
section LIST2
variable {G : GG} {l : Launch} {d : Nat} {post : Option AVal → AS → Prop} {σ : AS} {kk nn : Nat}
theorem lmod_of {σ2 : AS} {q n b : Nat} {e : Nat → Nm} (hW : LW σ) (k0 : sameK (fun c => c ≠ 0 ∧ c ≠ 23) σ σ2) (k1 : cnt σ2 0 = cnt σ 0) (k2 : ∀ q', q' ≠ q → gI σ2 0 2 q' = gI σ 0 2 q') (k3 : ∀ q', gR σ2 0 1 q' = if q' = q then some (23, b) else gR σ 0 1 q') (k4 : cnt σ 23 ≤ cnt σ2 23 ∧ b < cnt σ2 23) (kb : (b = 0 ∧ gN σ2 23 b = 0) ∨ (b ≠ 0 ∧ 10 ≤ gN σ2 23 b))
    (k5 : ∀ a, (a ≠ b ∨ b = 0) → a < cnt σ 23 → gN σ2 23 a = gN σ 23 a ∧ ∀ j, gQ σ2 23 a j = gQ σ 23 a j) (k6 : n ≤ gN σ2 23 b ∧ gN σ2 23 b ≤ 1000000) (ks : gI σ2 0 2 q = nI n) (k7 : ∀ i, i < n → gQ σ2 23 b i = some (e i)) (k8 : ∀ j, inObj (gQ σ2 23 b j)) (k9 : b ≠ 0 → ∀ q', q' ≠ q → q' < cnt σ 0 → gR σ 0 1 q' ≠ some (23, b)) :
    LAdd σ σ2 q ∧ AL σ2 q n e ∧ lcap σ2 q = gN σ2 23 b := by
  have hself : AL σ2 q n e := ⟨b, by rw [k3, if_pos rfl], ks, k6.1, k6.2, k7, k8, kb, k4.2⟩
  have hab : ∀ q' a, q' ≠ q → q' < cnt σ 0 → gR σ 0 1 q' = some (23, a) → a ≠ b ∨ b = 0 := fun q' a hne hlt h1 => by
    by_cases z : b = 0
    · exact Or.inr z
    · exact Or.inl (fun z2 => k9 z q' hne hlt (by rw [h1, z2]))
  have hoth : ∀ q' m f, q' ≠ q → q' < cnt σ 0 → AL σ q' m f → AL σ2 q' m f := by
    rintro q' m f hne hlt ⟨a, h1, h2, h3, h4, h5, h6, h7, h8⟩
    obtain ⟨g1, g2⟩ := k5 a (hab q' a hne hlt h1) h8
    exact ⟨a, by rw [k3, if_neg hne]; exact h1, (k2 q' hne).trans h2, by rw [g1]; exact h3, by rw [g1]; exact h4, fun i hi => (g2 i).trans (h5 i hi), fun j => by rw [g2]; exact h6 j, by rw [g1]; exact h7, Nat.lt_of_lt_of_le h8 k4.1⟩
  have hcap : ∀ q', q' ≠ q → q' < cnt σ 0 → lcap σ2 q' = lcap σ q' := by
    intro q' hne hlt
    obtain ⟨m, f, a, h1, h2, h3, h4, h5, h6, h7, h8⟩ := hW.1 q' hlt
    rw [lcap_of h1, lcap_of (a := a) (by rw [k3, if_neg hne]; exact h1)]
    exact (k5 a (hab q' a hne hlt h1) h8).1
  have h00 : gN σ2 23 0 = gN σ 23 0 ∧ ∀ j, gQ σ2 23 0 j = gQ σ 23 0 j := k5 0 (by
    by_cases z : b = 0
    · exact Or.inr z
    · exact Or.inl (Ne.symm z)) hW.2.2.2.1
  refine ⟨⟨k0, k1, ⟨fun q' hlt => ?_, fun q1 q2 h1 h2 he => ?_, h00.1.trans hW.2.2.1, Nat.lt_of_lt_of_le hW.2.2.2.1 k4.1, fun j => ?_⟩, hoth, hcap⟩, hself, lcap_of (by rw [k3, if_pos rfl])⟩
  · have hlt' : q' < cnt σ 0 := k1 ▸ hlt
    by_cases hne : q' = q
    · subst hne
      exact ⟨_, _, hself⟩
    · obtain ⟨m, f, h⟩ := hW.1 q' hlt'
      exact ⟨m, f, hoth q' m f hne hlt' h⟩
  · have h1' : q1 < cnt σ 0 := k1 ▸ h1
    have h2' : q2 < cnt σ 0 := k1 ▸ h2
    rw [k3, k3] at he
    rw [k3]
    by_cases e1 : q1 = q
    · by_cases e2 : q2 = q
      · exact Or.inl (e1.trans e2.symm)
      · rw [if_pos e1, if_neg e2] at he
        by_cases z : b = 0
        · exact Or.inr (by rw [if_pos e1, z])
        · exact absurd he.symm (k9 z q2 e2 h2')
    · by_cases e2 : q2 = q
      · rw [if_neg e1, if_pos e2] at he
        by_cases z : b = 0
        · exact Or.inr (by rw [if_neg e1, he, z])
        · exact absurd he (k9 z q1 e1 h1')
      · rw [if_neg e1, if_neg e2] at he
        rw [if_neg e1]
        exact hW.2.1 q1 q2 h1' h2' he
  · rw [h00.2]
    exact hW.2.2.2.2 j
theorem AL.apart {q n a : Nat} {e : Nat → Nm} (hW : LW σ) (hq : q < cnt σ 0) (h1 : gR σ 0 1 q = some (23, a)) : a ≠ 0 → ∀ q', q' ≠ q → q' < cnt σ 0 → gR σ 0 1 q' ≠ some (23, a) := fun h0 q' hne hlt z => by
  rcases hW.2.1 q' q hlt hq (z.trans h1.symm) with g | g
  · exact hne g
  · rw [z] at g
    exact h0 (by simpa using g)
theorem c_clear {q n : Nat} {e f : Nat → Nm} (hW : LW σ) (hq : q < cnt σ 0) (hA : AL σ q n e) (h : ∀ σ', LAdd σ σ' q → AL σ' q 0 f → lcap σ' q = lcap σ q → post none σ') : AMet G l M_Jx4a65c_clear_da8c8 d 0 0 [xR (some (0, q))] σ post := by
  obtain ⟨a, h1, h2, h3, h4, h5, h6, h7, h8⟩ := hA
  have fin : ∀ σ1, sameK (fun c => c ≠ 0 ∧ c ≠ 23) σ σ1 → cnt σ1 0 = cnt σ 0 → (∀ q', q' ≠ q → gI σ1 0 2 q' = gI σ 0 2 q') → gI σ1 0 2 q = nI 0 → (∀ q', gR σ1 0 1 q' = gR σ 0 1 q') → cnt σ1 23 = cnt σ 23 → (∀ i, gN σ1 23 i = gN σ 23 i) → (∀ i j, (i ≠ a ∨ a = 0) → gQ σ1 23 i j = gQ σ 23 i j) → (∀ j, inObj (gQ σ1 23 a j)) → post none σ1 := by
    intro σ1 z0 z1 z2 z3 z4 z5 z6 z7 z8
    obtain ⟨r1, r2, r3⟩ := lmod_of (σ2 := σ1) (q := q) (n := 0) (b := a) (e := f) hW z0 z1 z2 (fun q' => by
      rw [z4]
      by_cases c : q' = q
      · rw [if_pos c, c]; exact h1
      · rw [if_neg c]) ⟨Nat.le_of_eq z5.symm, by rw [z5]; exact h8⟩ (by rw [z6]; exact h7) (fun i hi _ => ⟨z6 i, fun j => z7 i j hi⟩) ⟨Nat.zero_le _, by rw [z6]; exact h4⟩ z3 (fun i hi => absurd hi (Nat.not_lt_zero i)) z8 (AL.apart (n := 0) (e := f) hW hq h1)
    exact h σ1 r1 r2 (by rw [r3, lcap_of h1, z6])
  have loop : ∀ (k v : Nat) (σ1 : AS), n - v = k → v ≤ n → sameK (fun c => c ≠ 0 ∧ c ≠ 23) σ σ1 → cnt σ1 0 = cnt σ 0 → (∀ q', q' ≠ q → gI σ1 0 2 q' = gI σ 0 2 q') → gI σ1 0 2 q = nI 0 → (∀ q', gR σ1 0 1 q' = gR σ 0 1 q') → cnt σ1 23 = cnt σ 23 → (∀ i, gN σ1 23 i = gN σ 23 i) → (∀ i j, (i ≠ a ∨ a = 0) → gQ σ1 23 i j = gQ σ 23 i j) → (∀ j, inObj (gQ σ1 23 a j)) → AW G l M_Jx4a65c_clear_da8c8 d post σ1 0 0 27 [none, some (xR (some (23, a))), some (xI (nI n)), some (xI (nI v))] [] := by
    intro k
    induction k with
    | zero =>
      intro v σ1 hk hv z0 z1 z2 z3 z4 z5 z6 z7 z8
      exact vc_Jx4a65c_clear_da8c8_27 ⟨fun _ => fin σ1 z0 z1 z2 z3 z4 z5 z6 z7 z8, fun c => absurd (nI_le (show n ≤ v by omega) (by omega)) c⟩
    | succ k ih =>
      intro v σ1 hk hv z0 z1 z2 z3 z4 z5 z6 z7 z8
      have ha0 : a ≠ 0 := fun z => by rcases h7 with g | g <;> omega
      refine vc_Jx4a65c_clear_da8c8_27 ⟨fun c => absurd ((nI_leI (by omega) (by omega)).mp c) (by omega), fun _ => ⟨a, rfl, ?_, fun m hm => (by cases hm), ?_⟩⟩
      · rw [z6]; exact vp_in_nI (by omega) (by omega)
      · rw [nI_clamp (by omega), nI_1]
        refine ih (v + 1) _ (by omega) (by omega) (fun c hc => (z0 c hc).tr (eqK_sQ hc.2)) z1 z2 z3 z4 z5 z6 (fun i j hi => ?_) (fun j => ?_)
        · rw [gQ_sQ, if_neg (fun z => by rcases hi with g | g; exact g z.2.1; exact ha0 g)]
          exact z7 i j hi
        · rw [gQ_sQ]
          split
          · intro m hm; cases hm
          · exact z8 j
  refine AMet.of rfl (Nat.le_of_ble_eq_true rfl) (vc_Jx4a65c_clear_da8c8 ?_)
  rw [h1, h2]
  have k := loop n 0 (sI (sI σ 0 0 q (gI σ 0 0 q + 1)) 0 2 q 0) rfl (Nat.zero_le _) (fun c hc => (eqK_sI hc.1).tr (eqK_sI hc.1)) rfl (fun q' hne => by rw [gI_o (fun z => hne z.2.2), gI_o (fun z => hne z.2.2)]) (by rw [gI_self, nI_0]) (fun _ => rfl) rfl (fun _ => rfl) (fun _ _ _ => rfl) h6
  rw [nI_0] at k
  exact k
theorem c_addAt {q n i : Nat} {e : Nat → Nm} {x : Nm} (hW : LW σ) (hq : q < cnt σ 0) (hA : AL σ q n e) (hi : i ≤ n) (hx : x.1 < 14) (hn : n < 500000) (hroom : n < lcap σ q ∨ (1 ≤ kk ∧ ncap n ≤ nn)) (h : ∀ σ', LAdd σ σ' q → AL σ' q (n + 1) (fun j => if j < i then e j else if j = i then x else e (j - 1)) → lcap σ' q = (if n < lcap σ q then lcap σ q else ncap n) → post none σ') : AMet G l M_Jx4a65c_add_7a177 (d + 6) kk nn [xR (some (0, q)), xI (nI i), xR (some x)] σ post := by
  have hA0 := hA
  obtain ⟨a, h1, h2, h3, h4, h5, h6, h7, h8⟩ := hA
  rw [lcap_of h1] at hroom h
  have hob : inObj (some x) := fun m hm => by cases hm; exact hx
  have k9 := AL.apart (n := 0) (e := e) hW hq h1
  refine AMet.of rfl (Nat.le_of_ble_eq_true rfl) (vc_Jx4a65c_add_7a177 (d := d + 5) (AMet.of rfl (Nat.le_of_ble_eq_true rfl) (vc_Jx4a65c_rangeCheckForAdd_d00df ⟨fun c => ?_, fun _ => ⟨fun _ => ⟨a, h1, fun c => ?_, fun c => ?_⟩, fun c => absurd (nI_pos' (by omega)) c⟩⟩)))
  · rw [h2] at c
    exact absurd ((nI_ltI (by omega) (by omega)).mp c) (by omega)
  · rw [h2] at c ⊢
    have hlt : n < gN σ 23 a := by
      rcases Nat.lt_or_ge n (gN σ 23 a) with g | g
      · exact g
      · exact absurd (congrArg nI (show n = gN σ 23 a by omega)) c
    have ha0 : a ≠ 0 := fun z => by rcases h7 with g | g <;> omega
    rw [nI_1, nI_subl hi (by omega), nI_clamp (by omega), nI_clamp (by omega), nI_clamp (by omega), nI_1]
    refine ⟨ha0, nI_pos (by omega), nI_pos (by omega), nI_pos (by omega), by show i + (n - i) ≤ gN σ 23 a; omega, by show i + 1 + (n - i) ≤ gN σ 23 a; omega, h6, (show vp_in (nI i) (gN σ 23 a) from vp_in_nI (by omega) (by omega)), hob, ?_⟩
    have gq : ∀ y j, gQ (sI (sQ (cpyS (sI σ 0 0 q (gI σ 0 0 q + 1)) a i (i + 1) (n - i) a) 23 a i (some x)) 0 2 q (nI (n + 1))) 23 y j = if y = a ∧ j = i then some x else if y = a ∧ i + 1 ≤ j ∧ j < i + 1 + (n - i) then gQ σ 23 a (i + (j - (i + 1))) else gQ σ 23 y j := fun y j => by
      rw [gQ_sI, gQ_sQ]
      by_cases c1 : y = a ∧ j = i
      · rw [if_pos ⟨rfl, c1⟩, if_pos c1]
      · rw [if_neg (fun z => c1 z.2), if_neg c1, gQ_cpy]
        by_cases c2 : y = a ∧ i + 1 ≤ j ∧ j < i + 1 + (n - i)
        · rw [if_pos ⟨rfl, c2⟩, if_pos c2]; rfl
        · rw [if_neg (fun z => c2 z.2), if_neg c2]; rfl
    obtain ⟨r1, r2, r3⟩ := lmod_of (σ2 := sI (sQ (cpyS (sI σ 0 0 q (gI σ 0 0 q + 1)) a i (i + 1) (n - i) a) 23 a i (some x)) 0 2 q (nI (n + 1))) (q := q) (n := n + 1) (b := a) (e := fun j => if j < i then e j else if j = i then x else e (j - 1)) hW (fun c hc => (((eqK_sI hc.1).tr (eqK_cpy hc.2)).tr (eqK_sQ hc.2)).tr (eqK_sI hc.1)) rfl (fun q' hne => by rw [gI_o (fun z => hne z.2.2)]; exact (gI_o (fun z => hne z.2.2) : gI (sI σ 0 0 q (gI σ 0 0 q + 1)) 0 2 q' = gI σ 0 2 q')) (fun q' => by
      show gR σ 0 1 q' = _
      by_cases z : q' = q
      · rw [if_pos z, z]; exact h1
      · rw [if_neg z]) ⟨Nat.le_refl _, h8⟩ (Or.inr ⟨ha0, by show 10 ≤ gN σ 23 a; rcases h7 with g | g <;> omega⟩) (fun y hy _ => ⟨rfl, fun j => by
        rw [gq, if_neg (fun z => by rcases hy with g | g; exact g z.1; exact ha0 g), if_neg (fun z => by rcases hy with g | g; exact g z.1; exact ha0 g)]⟩) ⟨hlt, h4⟩ gI_self (fun j hj => by
        rw [gq]
        by_cases c1 : j = i
        · rw [if_pos ⟨rfl, c1⟩]
          show _ = some (if j < i then e j else if j = i then x else e (j - 1))
          rw [if_neg (by omega), if_pos c1]
        · rw [if_neg (fun z => c1 z.2)]
          show _ = some (if j < i then e j else if j = i then x else e (j - 1))
          by_cases c2 : j < i
          · rw [if_neg (fun z => by omega), if_pos c2]; exact h5 j (by omega)
          · rw [if_pos ⟨rfl, by omega, by omega⟩, if_neg c2, if_neg c1, show i + (j - (i + 1)) = j - 1 by omega]; exact h5 (j - 1) (by omega)) (fun j => by
        rw [gq]
        split
        · exact hob
        · split
          · exact h6 _
          · exact h6 _) k9
    exact h _ r1 r2 (by rw [if_pos hlt]; exact r3)
  · rw [h2] at c ⊢
    have hfull : gN σ 23 a = n := by
      have c : nI n = nI (gN σ 23 a) := c
      exact ((nI_eq (by omega) (by omega)).mp c).symm
    have hk : 1 ≤ kk ∧ ncap n ≤ nn := by
      rcases hroom with g | g
      · omega
      · exact g
    refine ⟨kk, nn, 0, 0, (Nat.zero_add _).symm, (Nat.zero_add _).symm, ?_⟩
    refine AMet.of rfl (Nat.le_of_ble_eq_true rfl) (vc_Jx4a65c_grow_d5877 ⟨kk, nn, 0, 0, (Nat.zero_add _).symm, (Nat.zero_add _).symm, ?_⟩)
    rw [gI_o (by omega), h2, nI_1]
    refine c_grow1 (AL.mod hA0) h1 hfull hk.1 hk.2 (fun σ1 g1 g2 g3 g4 => ⟨cnt σ 23, rfl, ?_⟩)
    have hb : cnt σ 23 ≠ 0 := by omega
    have hnc : n < ncap n ∧ 10 ≤ ncap n ∧ ncap n ≤ 1000000 := by
      unfold ncap
      split
      · omega
      · have : 10 ≤ n := by rcases h7 with g | g <;> omega
        omega
    have hgN : gN σ1 23 (cnt σ 23) = ncap n := by
      rw [g3]
      show gN (nA (sI σ 0 0 q (gI σ 0 0 q + 1)) 23 (ncap (gN σ 23 a))) 23 (cnt σ 23) = _
      rw [gN_nA, if_pos ⟨rfl, rfl⟩, hfull]
    have hold : ∀ a', a' ≠ cnt σ 23 → gN σ1 23 a' = gN σ 23 a' ∧ ∀ j, gQ σ1 23 a' j = gQ σ 23 a' j := by
      intro a' hne
      refine ⟨?_, fun j => ?_⟩
      · rw [g3]
        show gN (nA (sI σ 0 0 q (gI σ 0 0 q + 1)) 23 (ncap (gN σ 23 a))) 23 a' = _
        rw [gN_nA, if_neg (fun z => hne z.2)]; rfl
      · rw [g4]
        show gQ (cpyS (nA (sI σ 0 0 q (gI σ 0 0 q + 1)) 23 (ncap (gN σ 23 a))) a 0 0 (gN σ 23 a) (cnt σ 23)) 23 a' j = _
        rw [gQ_cpy, if_neg (fun z => hne z.2.1), gQ_nA, if_neg (fun z => hne z.2)]; rfl
    have hnewq : ∀ j, gQ σ1 23 (cnt σ 23) j = if j < n then gQ σ 23 a j else none := by
      intro j
      rw [g4]
      show gQ (cpyS (nA (sI σ 0 0 q (gI σ 0 0 q + 1)) 23 (ncap (gN σ 23 a))) a 0 0 (gN σ 23 a) (cnt σ 23)) 23 (cnt σ 23) j = _
      rw [gQ_cpy, hfull]
      by_cases hj : j < n
      · rw [if_pos ⟨rfl, rfl, Nat.zero_le _, by omega⟩, if_pos hj, gQ_nA, if_neg (fun z => by have := z.2; have : cnt (sI σ 0 0 q (gI σ 0 0 q + 1)) 23 = cnt σ 23 := rfl; omega)]
        show gQ σ 23 a (0 + (j - 0)) = _
        congr 1
        omega
      · rw [if_neg (fun z => by omega), if_neg hj, gQ_nA, if_pos ⟨rfl, rfl⟩]
    have h6' : ∀ j, inObj (gQ σ1 23 (cnt σ 23) j) := fun j => by
      rw [hnewq]
      split
      · exact h6 j
      · exact fun m hm => by cases hm
    have e0 := g1 0 (by decide)
    rw [nI_1, nI_subl hi (by omega), nI_clamp (by omega), nI_clamp (by omega), nI_clamp (by omega)]
    refine ⟨hb, nI_pos (by omega), nI_pos (by omega), nI_pos (by omega), by rw [hgN]; omega, by rw [hgN]; omega, h6', ?_, hob, ?_⟩
    · show vp_in (nI i) (gN σ1 23 (cnt σ 23))
      rw [hgN]; exact vp_in_nI (by omega) (by omega)
    have gq : ∀ y j, gQ (sI (sQ (cpyS σ1 (cnt σ 23) i (i + 1) (n - i) (cnt σ 23)) 23 (cnt σ 23) i (some x)) 0 2 q (nI (n + 1))) 23 y j = if y = cnt σ 23 ∧ j = i then some x else if y = cnt σ 23 ∧ i + 1 ≤ j ∧ j < i + 1 + (n - i) then gQ σ1 23 (cnt σ 23) (i + (j - (i + 1))) else gQ σ1 23 y j := fun y j => by
      rw [gQ_sI, gQ_sQ]
      by_cases c1 : y = cnt σ 23 ∧ j = i
      · rw [if_pos ⟨rfl, c1⟩, if_pos c1]
      · rw [if_neg (fun z => c1 z.2), if_neg c1, gQ_cpy]
        by_cases c2 : y = cnt σ 23 ∧ i + 1 ≤ j ∧ j < i + 1 + (n - i)
        · rw [if_pos ⟨rfl, c2⟩, if_pos c2]
        · rw [if_neg (fun z => c2 z.2), if_neg c2]
    have p1 : sameK (fun c => c ≠ 0 ∧ c ≠ 23) σ σ1 := by
      intro c hc
      refine eqK.tr ?_ (g1 c hc.2)
      unfold grown
      exact (eqK_sI hc.1).tr ((eqK_nA hc.2).tr ((eqK_cpy hc.2).tr (eqK_sR hc.1)))
    have p2 : cnt σ1 0 = cnt σ 0 := by
      refine e0.1.trans ?_
      show cnt (nA (sI σ 0 0 q (gI σ 0 0 q + 1)) 23 (ncap (gN σ 23 a))) 0 = _
      rw [cnt_nA, if_neg (by decide)]; rfl
    have p3 : ∀ q', q' ≠ q → gI σ1 0 2 q' = gI σ 0 2 q' := by
      intro q' hne
      rw [e0.2.1]
      show gI (nA (sI σ 0 0 q (gI σ 0 0 q + 1)) 23 (ncap (gN σ 23 a))) 0 2 q' = _
      rw [gI_nA, if_neg (fun z => absurd z.1 (by decide)), gI_o (fun z => hne z.2.2)]
    have p4 : ∀ q', gR σ1 0 1 q' = if q' = q then some (23, cnt σ 23) else gR σ 0 1 q' := by
      intro q'
      rw [e0.2.2.1]
      unfold grown
      rw [gR_sR]
      by_cases hqq : q' = q
      · rw [if_pos ⟨rfl, rfl, hqq⟩, if_pos hqq]; rfl
      · rw [if_neg (fun z => hqq z.2.2), if_neg hqq]
        show gR (nA (sI σ 0 0 q (gI σ 0 0 q + 1)) 23 (ncap (gN σ 23 a))) 0 1 q' = _
        rw [gR_nA, if_neg (fun z => absurd z.1 (by decide))]; rfl
    have p6 : ∀ q', q' ≠ q → q' < cnt σ 0 → gR σ 0 1 q' ≠ some (23, cnt σ 23) := by
      intro q' hne hlt z
      obtain ⟨m, f, a2, q1, -, -, -, -, -, -, q8⟩ := hW.1 q' hlt
      rw [z] at q1
      have : cnt σ 23 = a2 := by simpa using q1
      omega
    have g2' : cnt σ1 23 = cnt σ 23 + 1 := g2
    obtain ⟨r1, r2, r3⟩ := lmod_of (σ2 := sI (sQ (cpyS σ1 (cnt σ 23) i (i + 1) (n - i) (cnt σ 23)) 23 (cnt σ 23) i (some x)) 0 2 q (nI (n + 1))) (q := q) (n := n + 1) (b := cnt σ 23) (e := fun j => if j < i then e j else if j = i then x else e (j - 1)) hW (fun c hc => (((p1 c hc).tr (eqK_cpy hc.2)).tr (eqK_sQ hc.2)).tr (eqK_sI hc.1)) p2 (fun q' hne => by rw [gI_o (fun z => hne z.2.2)]; exact p3 q' hne) p4 ⟨by show cnt σ 23 ≤ cnt σ1 23; omega, by show cnt σ 23 < cnt σ1 23; omega⟩ (Or.inr ⟨hb, by show 10 ≤ gN σ1 23 (cnt σ 23); rw [hgN]; exact hnc.2.1⟩) (fun y hy hlt => by
        have hyb : y ≠ cnt σ 23 := by omega
        exact ⟨(hold y hyb).1, fun j => by rw [gq, if_neg (fun z => hyb z.1), if_neg (fun z => hyb z.1)]; exact (hold y hyb).2 j⟩) ⟨by show n + 1 ≤ gN σ1 23 (cnt σ 23); rw [hgN]; omega, by show gN σ1 23 (cnt σ 23) ≤ 1000000; rw [hgN]; omega⟩ gI_self (fun j hj => by
        rw [gq]
        by_cases c1 : j = i
        · rw [if_pos ⟨rfl, c1⟩]
          show _ = some (if j < i then e j else if j = i then x else e (j - 1))
          rw [if_neg (by omega), if_pos c1]
        · rw [if_neg (fun z => c1 z.2)]
          show _ = some (if j < i then e j else if j = i then x else e (j - 1))
          by_cases c2 : j < i
          · rw [if_neg (fun z => by omega), if_pos c2, hnewq, if_pos (by omega)]; exact h5 j (by omega)
          · rw [if_pos ⟨rfl, by omega, by omega⟩, if_neg c2, if_neg c1, show i + (j - (i + 1)) = j - 1 by omega, hnewq, if_pos (by omega)]; exact h5 (j - 1) (by omega)) (fun j => by
        rw [gq]
        split
        · exact hob
        · split
          · exact h6' _
          · exact h6' _) (fun _ => p6)
    exact h _ r1 r2 (by rw [if_neg (by omega), r3]; exact hgN)
end LIST2
