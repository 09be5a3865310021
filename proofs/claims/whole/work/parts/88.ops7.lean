/-! Calls: agree. -/
section OPS7
variable {G : GG} {l : Launch} {d D : Nat} {σ : AS} {Q : Option AVal → AS → Prop} {P : Option AVal → Option AVal → AS → Prop}
theorem rallT_ok {n : Nat} {b : Nat → Int32} {K : Nat} {o : Out} (ho : o.1 = 0) : ∀ f k, rallT n b f k (ipT n b k) = (K, o) → k ≤ K ∧ ∀ a, k ≤ a → a < K → (rt n b (ipT n b a)).1 = 0
  | 0, k, h => by
    rw [rallT] at h
    by_cases c : tK n b (ipT n b k) = 0
    · rw [if_pos c] at h
      injection h with e1 e2
      exact ⟨by omega, fun a h1 h2 => by omega⟩
    · rw [if_neg c] at h
      injection h with e1 e2
      rw [← e2] at ho
      by_cases w : tmK n b (ipT n b k) = -1
      · rw [if_pos w] at ho; exact absurd ho i1n0
      · rw [if_neg w] at ho; exact absurd ho i2n0
  | f + 1, k, h => by
    rw [rallT] at h
    by_cases c : tK n b (ipT n b k) = 0
    · rw [if_pos c] at h
      injection h with e1 e2
      exact ⟨by omega, fun a h1 h2 => by omega⟩
    · rw [if_neg c] at h
      by_cases z : (rt n b (ipT n b k)).1 = 0
      · rw [if_pos z] at h
        have ih := rallT_ok ho f (k + 1) h
        refine ⟨by omega, fun a h1 h2 => ?_⟩
        by_cases e : a = k
        · rw [e]; exact z
        · exact ih.2 a (by omega) h2
      · rw [if_neg z] at h
        injection h with e1 e2
        rw [← e2] at ho
        exact absurd ho z
theorem tmK_4 {n i : Nat} {b : Nat → Int32} (h : (rt n b i).1 = 0) : ∃ c, c ≤ 3 ∧ tmK n b i = nI c := by
  by_cases e : tmK n b i = -1
  · unfold rt at h; rw [if_pos e] at h; exact absurd h i1n0
  · unfold tmK at e ⊢
    by_cases c13 : isW n b i 13 = true
    · rw [if_pos c13]; exact ⟨0, by decide, rfl⟩
    · rw [if_neg c13] at e ⊢
      by_cases c14 : isW n b i 14 = true
      · rw [if_pos c14]; exact ⟨1, by decide, rfl⟩
      · rw [if_neg c14] at e ⊢
        by_cases c15 : isW n b i 15 = true
        · rw [if_pos c15]; exact ⟨2, by decide, rfl⟩
        · rw [if_neg c15] at e ⊢
          by_cases c16 : isW n b i 16 = true
          · rw [if_pos c16]; exact ⟨3, by decide, rfl⟩
          · rw [if_neg c16] at e; exact absurd rfl e
section
variable {N K q a0 n an A R F T mvn lkn : Nat} {asg : Nat → Option Nat} {b ab fP fS mv lk : Nat → Int32} {per : Nat → Nat → Int32} {ax tq tc : Nat → Nat} {tt : Nat → Nat → Nat} {tf : Nat → Nat → Nat → Int32} {w : Nat → Nat} {rf : Nat → Nat → Int32} {rg : Nat → Option Nat} {Rs : Nat → Nat} {pl : Int32}
theorem AgF.row {σ' : AS} {r m : Nat} {y : Nat → Int32} (h : AgF σ σ') (hS : St σ) (hr : r < 6) (h0 : r ≠ 0) (k : RW σ r m y) : RW σ' r m y := by
  obtain ⟨k1, k2, k3⟩ := k.out hS hr
  exact RW.mk (h.st hS) hr ((h.2.2.2.1 r h0).trans k1) k2 (fun i hi => ((h.1 20 (by decide)).2.2.2.2.1 _ i).trans (k3 i hi))
/-- the class's part over an agreement -/
theorem CI.ag {A' : Nat} {ax' tq' tc' : Nat → Nat} {tt' : Nat → Nat → Nat} {tf' : Nat → Nat → Nat → Int32} {pl' : Int32} {σ' : AS} (h : CI σ D N K q a0 n an A R F T mvn lkn asg b ab fP fS mv lk per ax tq tc tt tf w rf rg pl) (Fr : AgF σ σ') (hA : AgC σ' A' ax' tq' tc' tt' tf') (hx : ∀ r, r < R → ∀ g, rg r = some g → ax' g = ax g) (hp : gI σ' 10 1 0 = pl') : CI σ' D N K q a0 0 an A' R F T mvn lkn asg (fun _ => 0) ab fP fS mv lk per ax' tq' tc' tt' tf' w rf rg pl' := by
  obtain ⟨c1, c2, c3, ⟨c4, c5, c6⟩, c7, c8, c9, c10, c11⟩ := h
  have hS := c1.1
  have al : ∀ q n e, q ≠ 1 → q < cnt σ 0 → AL σ q n e → AL σ' q n e := Fr.2.2.2.2.2.2.2.1
  have cl := Fr.2.2.2.2.2.1
  have e6 := Fr.1 6 (by decide)
  have e2 := Fr.1 2 (by decide)
  have e11 := Fr.1 11 (by decide)
  have p0 : 0 < cnt σ 0 := by have := c3.2.1; omega
  refine ⟨⟨Fr.st hS, al 0 _ _ (by decide) p0 c1.2.1, c1.2.2.1, e6.1.trans c1.2.2.2.1, fun p hp' => (e6.2.1 0 p).trans (c1.2.2.2.2.1 p hp'), ((Fr.1 7 (by decide)).2.2.1 0 0).trans c1.2.2.2.2.2.1, al q _ _ (by have := c3.2.2.2; omega) c3.2.2.1 c1.2.2.2.2.2.2.1, c1.2.2.2.2.2.2.2.1, by rw [e2.1]; exact c1.2.2.2.2.2.2.2.2.1, fun a ha => (e2.2.1 0 _).trans (c1.2.2.2.2.2.2.2.2.2 a ha)⟩, c2.same (fun p _ => e6.2.2.1 11 p) (fun x => e2.2.1 6 x), ⟨Fr.2.2.2.2.2.2.1, Nat.lt_of_lt_of_le c3.2.1 cl, Nat.lt_of_lt_of_le c3.2.2.1 cl, c3.2.2.2⟩, ⟨((Fr.1 12 (by decide)).2.1 10 0).trans c4, ((Fr.1 5 (by decide)).2.1 2 0).trans c5, hp⟩, ⟨Fr.2.2.2.2.2.2.2.2.2, Fr.row hS (by decide) (by decide) c7.2.1, Fr.row hS (by decide) (by decide) c7.2.2.1, Fr.row hS (by decide) (by decide) c7.2.2.2.1, Fr.row hS (by decide) (by decide) c7.2.2.2.2⟩, fun p hp' f hf => (e6.2.1 f p).trans (c8 p hp' f hf), c9.same (fun f x _ => e2.2.1 f x) (fun f x => e2.2.2.1 f x) (Fr.1 25 (by decide)), hA, ⟨al 5 _ _ (by decide) c3.2.1 c11.1, e11.1.trans c11.2.1, fun r hr => ?_⟩⟩
  obtain ⟨y1, y2, y3⟩ := c11.2.2 r hr
  refine ⟨(e11.2.2.1 0 r).trans y1, fun f hf => (e11.2.1 f r).trans (y2 f hf), (e11.2.2.1 8 r).trans (y3.trans ?_)⟩
  cases c : rg r with
  | none => rfl
  | some g => show some (1, ax g) = some (1, ax' g); rw [hx r hr g c]
theorem AgF.old {σ' : AS} (Fr : AgF σ σ') (h : AgC σ A ax tq tc tt tf) {g : Nat} (hg : g < A) : ax g < cnt σ' 1 ∧ gI σ' 1 0 (ax g) = nI g ∧ gR σ' 1 1 (ax g) = some (0, tq g) ∧ (6 ≤ tq g ∧ tq g < cnt σ' 0) ∧ AL σ' (tq g) (tc g) (fun j => (9, tt g j)) ∧ ∀ j, j < tc g → tt g j < cnt σ' 9 ∧ ∀ f, f ≤ 3 → gI σ' 9 f (tt g j) = tf g j f := by
  obtain ⟨e1, e2, e3, e4, e5, e6⟩ := h.2 g hg
  obtain ⟨x1, x2⟩ := Fr.2.1.2 (ax g) e1
  refine ⟨Nat.lt_of_lt_of_le e1 Fr.2.1.1, (x1 0).trans e2, (x2 1).trans e3, ⟨e4.1, Nat.lt_of_lt_of_le e4.2 Fr.2.2.2.2.2.1⟩, Fr.2.2.2.2.2.2.2.1 _ _ _ (by omega) e4.2 e5, fun j hj => ?_⟩
  obtain ⟨y1, y2⟩ := e6 j hj
  exact ⟨Nat.lt_of_lt_of_le y1 Fr.2.2.1.1, fun f hf => ((Fr.2.2.1.2 _ y1).1 f).trans (y2 f hf)⟩
end
theorem op_agree {kk nn : Nat} (hkk : 21 ≤ kk) (hnn : 200 ≤ nn) (hI : Inv D σ) (h1 : ∀ (x0 : Int32) (σ1 : AS), XK σ σ1 → AMet G l M_X12_agree (d + 36) 0 0 [xR (some (13, 0))] σ1 (P (some (xI x0))) → Q (some (xI x0)) σ1) (h2 : ∀ x σ2, Inv D σ2 → XK σ σ2 → P (some (xI x)) (some (xI x)) σ2) : AMet G l M_X11_agree (d + 36) kk nn [xR (some (12, 0))] σ Q := by
  obtain ⟨N, K, q, a0, n, an, A, R, F, T, mvn, lkn, asg, b, ab, fP, fS, mv, lk, per, ax, tq, tc, tt, tf, w, rf, rg, Rs, pl, hC, ⟨o1, o2, o3, o4, o5, o6, o7, o8, o9⟩, hM⟩ := id hI
  obtain ⟨c1, c2, c3, c4, c5, c6, c7, c8, c9⟩ := id hC
  have hS := c1.1
  have pm : ∀ {σ2 σ3 : AS} {tc' : Nat → Nat} {tf' : Nat → Nat → Nat → Int32} {A' : Nat} {pl' : Int32}, MI σ2 D N K n an A R F T mvn lkn asg b ab fP fS mv lk per tc tf w rf rg Rs pl → MZ True PG QT σ2 σ3 → gI σ3 13 17 0 = 0 → gI σ3 13 26 0 = pl' → AgM2 σ3 A' tc' tf' → MI σ3 D N K 0 an A' R F T mvn lkn asg (fun _ => 0) ab fP fS mv lk per tc' tf' w rf rg Rs pl' := by
    intro σ2 σ3 tc' tf' A' pl' M1 Z z17 z26 m6
    obtain ⟨n1, n2, n3, n4, n5, n6, n7, n8, n9⟩ := M1
    exact ⟨n1.keep (EqM.mz Z (fun f x => by unfold pPer at x; unfold PG; omega) (fun c a x => by unfold qPer at x; unfold QT; omega)), n2.keep (EqM.mz Z (fun f x => x.elim) (fun c a x => by unfold qCal at x; unfold QT; omega)), n3.keep (EqM.mz Z (fun f x => by unfold pFac at x; unfold PG; omega) (fun c a x => by unfold qFac at x; unfold QT; omega)), ⟨by rw [z17, nI_0], by omega, fun i hi => absurd hi (Nat.not_lt_zero i)⟩, n5.keep (EqM.mz Z (fun f x => by unfold pAsk at x; unfold PG; omega) (fun c a x => by unfold qAsk at x; unfold QT; omega)), m6, n7.keep (EqM.mz Z (fun f x => by unfold pRec at x; unfold PG; omega) (fun c a x => by unfold qRec at x; unfold QT; omega)), n8.keep (EqM.mz Z (fun f x => by unfold pMov at x; unfold PG; omega) (fun c a x => by unfold qMov at x; unfold QT; omega)), z26⟩
  have byt0 : BytOk 0 (fun _ => 0) := ⟨by omega, fun i hi => absurd hi (Nat.not_lt_zero i)⟩
  refine c_agree (d := d + 27) hS c3.1 c3.2.1 c8.1 o5.1 c5.1 hkk hnn (fun e30 => h1 _ σ XK.rf (m_agree (d := d + 29) hS o5.1 hM.2.2.2.2.2.1.1 hM.2.2.2.1.1 o3.1 hM.2.2.2.1.2.2 o3.2 (fun _ => h2 _ _ hI.t0 XK.t0) (fun lt => absurd lt (by omega)) (fun lt => absurd lt (by omega)))) (fun lt σ1 K' o er ho Fr al f1 => ?_) (fun lt σ1 K' er hK' Fr al k1 g10 r11 lt0 alT k9 tr f1 => ?_)
  · have kM : sameK MK σ σ1 := fun c hc => Fr.1 c (by unfold MK at hc; omega)
    have xk : XK σ σ1 := ⟨Fr.1 27 (by decide), Fr.1 24 (by decide)⟩
    have S1 := Fr.st hS
    have M1 := hM.keepC kM
    have C1 : CI σ1 D N K q a0 0 an A R F T mvn lkn asg (fun _ => 0) ab fP fS mv lk per ax tq tc tt tf w rf rg (nI o.2) := hC.ag Fr ⟨al, fun g hg => Fr.old c8 hg⟩ (fun _ _ _ _ => rfl) f1
    refine h1 _ σ1 xk (m_agree (d := d + 29) S1 o5.1 M1.2.2.2.2.2.1.1 M1.2.2.2.1.1 o3.1 M1.2.2.2.1.2.2 o3.2 (fun e => absurd e (by omega)) (fun _ K2 σ' _ hr => ?_) (fun _ k o' σ' er' ho' Z ka z0 z17 z26 z49 => ?_))
    · exfalso
      obtain ⟨i, hi⟩ := hr
      rw [er] at hi; cases hi
      exact ho rfl
    · rw [er] at er'; cases er'
      refine h2 _ _ ⟨N, K, q, a0, 0, an, A, R, F, T, mvn, lkn, asg, fun _ => 0, ab, fP, fS, mv, lk, per, ax, tq, tc, tt, tf, w, rf, rg, Rs, _, C1.keep Z.1 (Z.st S1), ⟨o1, o2, byt0, o4, o5, o6, o7, o8, o9⟩, pm M1 Z z17 z26 ⟨z49, fun g hg => ?_⟩⟩ (xk.tr (XK.mz Z))
      obtain ⟨y1, y2⟩ := M1.2.2.2.2.2.1.2 g hg
      have t8 := (o5.2 g hg).1
      refine ⟨(ka.2.1 g (by omega)).trans y1, fun j hj => ?_⟩
      obtain ⟨u1, u2, u3, u4⟩ := y2 j hj
      exact ⟨(ka.1 24 _ (by decide) (by omega)).trans u1, (ka.1 25 _ (by decide) (by omega)).trans u2, (ka.1 26 _ (by decide) (by omega)).trans u3, (ka.2.2 _ (by omega)).trans u4⟩
  · have kM : sameK MK σ σ1 := fun c hc => Fr.1 c (by unfold MK at hc; omega)
    have xk : XK σ σ1 := ⟨Fr.1 27 (by decide), Fr.1 24 (by decide)⟩
    have S1 := Fr.st hS
    have M1 := hM.keepC kM
    have hg : ∀ r, r < R → ∀ g, rg r = some g → g < A := fun r hr g e => (o8.2.2.2.1 r hr).2.1 g e
    have C1 : CI σ1 D N K q a0 0 an (A + 1) R F T mvn lkn asg (fun _ => 0) ab fP fS mv lk per (fun g => if g = A then cnt σ 1 else ax g) (fun g => if g = A then cnt σ 0 else tq g) (fun g => if g = A then K' else tc g) (fun g j => if g = A then cnt σ 9 + j else tt g j) (fun g j f => if g = A then gI σ1 9 f (cnt σ 9 + j) else tf g j f) w rf rg (-1) := by
      refine hC.ag Fr ⟨al, fun g hgA => ?_⟩ (fun r hr g e => ?_) f1
      · dsimp only
        by_cases e : g = A
        · subst e
          rw [if_pos rfl, if_pos rfl, if_pos rfl]
          refine ⟨by omega, g10, r11, ⟨by have := c3.2.1; omega, lt0⟩, alT.fits (fun i hi => by rw [if_pos rfl]), fun j hj => ?_⟩
          rw [if_pos rfl]
          exact ⟨by omega, fun f hf => by rw [if_pos rfl]⟩
        · rw [if_neg e, if_neg e, if_neg e]
          obtain ⟨y1, y2, y3, y4, y5, y6⟩ := Fr.old c8 (g := g) (by omega)
          refine ⟨y1, y2, y3, y4, y5.fits (fun i hi => by rw [if_neg e]), fun j hj => ?_⟩
          rw [if_neg e]
          exact ⟨(y6 j hj).1, fun f hf => by rw [if_neg e]; exact (y6 j hj).2 f hf⟩
      · exact if_neg (by have := hg r hr g e; omega)
    have rok := (rallT_ok rfl 8 0 er).2
    refine h1 _ σ1 xk (m_agree (d := d + 29) S1 o5.1 M1.2.2.2.2.2.1.1 M1.2.2.2.1.1 o3.1 M1.2.2.2.1.2.2 o3.2 (fun e => absurd e (by omega)) (fun _ K2 σ' hK2 hr Z ka z0 z17 z26 z49 z23 tm => ?_) (fun _ k o' σ' er' ho' => ?_))
    · obtain ⟨i, hi⟩ := hr
      have hi' := er.symm.trans hi
      have eK : K' = K2 := congrArg Prod.fst hi'
      subst eK
      refine h2 _ _ ⟨N, K, q, a0, 0, an, A + 1, R, F, T, mvn, lkn, asg, fun _ => 0, ab, fP, fS, mv, lk, per, _, _, fun g => if g = A then K' else tc g, _, fun g j f => if g = A then gI σ1 9 f (cnt σ 9 + j) else tf g j f, w, rf, rg, Rs, _, C1.keep Z.1 (Z.st S1), ⟨o1, o2, byt0, o4, ⟨by omega, fun g hgA => ?_⟩, o6, o7, ⟨o8.1, o8.2.1, o8.2.2.1, fun r hr => ?_, o8.2.2.2.2⟩, o9⟩, pm M1 Z z17 z26 ⟨z49, fun g hgA => ?_⟩⟩ (xk.tr (XK.mz Z))
      · dsimp only
        by_cases e : g = A
        · subst e
          rw [if_pos rfl]
          refine ⟨hK', fun j hj => ?_⟩
          rw [if_pos rfl, (tr j hj).1]
          exact tmK_4 (rok j (Nat.zero_le _) hj)
        · rw [if_neg e]
          refine ⟨(o5.2 g (by omega)).1, fun j hj => ?_⟩
          rw [if_neg e]
          exact (o5.2 g (by omega)).2 j hj
      · obtain ⟨e1, e2, e3⟩ := o8.2.2.2.1 r hr
        exact ⟨e1, fun g e => by have := e2 g e; omega, e3⟩
      · dsimp only
        by_cases e : g = A
        · subst e
          rw [if_pos rfl]
          refine ⟨z23, fun j hj => ?_⟩
          rw [if_pos rfl, if_pos rfl, if_pos rfl, if_pos rfl]
          obtain ⟨u1, u2, u3, u4⟩ := tm j hj
          obtain ⟨v1, v2, v3, v4⟩ := tr j hj
          exact ⟨u1.trans v1.symm, u2.trans v2.symm, u3.trans v3.symm, u4.trans v4.symm⟩
        · rw [if_neg e]
          obtain ⟨y1, y2⟩ := M1.2.2.2.2.2.1.2 g (by omega)
          have t8 := (o5.2 g (by omega)).1
          refine ⟨(ka.2.1 g e).trans y1, fun j hj => ?_⟩
          obtain ⟨u1, u2, u3, u4⟩ := y2 j hj
          rw [if_neg e, if_neg e, if_neg e, if_neg e]
          exact ⟨(ka.1 24 _ (by decide) (by omega)).trans u1, (ka.1 25 _ (by decide) (by omega)).trans u2, (ka.1 26 _ (by decide) (by omega)).trans u3, (ka.2.2 _ (by omega)).trans u4⟩
    · exfalso
      rw [er] at er'
      have := congrArg (fun x => x.2.1) er'
      exact ho' this.symm
end OPS7
