/-! seen: class and model. -/
section OPSEEN
variable {G : GG} {l : Launch} {d D : Nat} {σ : AS} {Q : Option AVal → AS → Prop}
/-- the script and the out array's length stand -/
def XO (σ σ' : AS) : Prop := eqK σ σ' 27 ∧ ∀ i, gN σ' 24 i = gN σ 24 i
theorem XO.rf : XO σ σ := ⟨eqK.rf, fun _ => rfl⟩
theorem XO.tr {σ1 σ2 : AS} (h : XO σ σ1) (k : XO σ1 σ2) : XO σ σ2 := ⟨h.1.tr k.1, fun i => (k.2 i).trans (h.2 i)⟩
theorem XK.xo {σ' : AS} (h : XK σ σ') : XO σ σ' := ⟨h.1, fun i => h.2.2.2.2.1 i⟩
theorem Inv.sL {p j : Nat} {v : Int64} (h : Inv D σ) : Inv D (sL σ 24 p j v) := h
theorem op_seen {x sc y : Int32} {p5 : Nat} (hl : l.stackTraces = false) (hI : Inv D σ) (h24 : vp_in 0 (gN σ 24 p5))
    (h : ∀ r σ1, XO σ σ1 → (AMet G l M_X12_seen (d + 36) 0 0 [xR (some (13, 0)), xI x, xI sc, xI y] σ1 (retI (fun v σ2 => AMet G l M_X12_thrown (d + 36) 0 0 [xR (some (13, 0))] σ2 (retI (fun t σ3 => t = r ∧ (r = 0 → gL σ3 24 p5 (0 : Int32).toNatClampNeg = v.toInt64) ∧ Inv D σ3 ∧ XO σ σ3))))) → Q (some (xI r)) σ1) : AMetW G l M_L_seen hhS (d + 36) 1 6 [xR (some (12, 0)), xI x, xI sc, xI y, xR (some (24, p5))] σ Q := by
  obtain ⟨N, K, q, a0, n, an, A, R, F, T, mvn, lkn, asg, b, ab, fP, fS, mv, lk, per, ax, tq, tc, tt, tf, w, rf, rg, Rs, pl, hC, hO, hM⟩ := id hI
  obtain ⟨o1, o2, o3, o4, o5, o6, o7, o8, o9⟩ := id hO
  obtain ⟨c1, c2, c3, c4, c5, c6, c7, c8, c9⟩ := id hC
  obtain ⟨m1, m2, m3, m4, m5, m6, m7, m8, m9⟩ := id hM
  have hS := c1.1
  have fa := hO.facts
  have thr : ∀ {σ2 : AS} {post : Option AVal → AS → Prop}, post (some (xI (gI σ2 13 0 0))) σ2 → AMet G l M_X12_thrown (d + 36) 0 0 [xR (some (13, 0))] σ2 post := fun h => AMet.of rfl (Nat.le_of_ble_eq_true rfl) (vc_X12_thrown h)
  have tim : ∀ k, k ≤ F → timN (fun i => gA σ 26 8 i) (fun i => gA σ 26 9 i) x sc k = timN fP fS x sc k := fun k hk => timN_congr k (fun i hi => m3.2.2 i (by omega))
  refine AMetW.of (M := M_L_seen) (hh := hhS) rfl (Nat.le_of_ble_eq_true rfl) (vc_L_seen (kk := 0) (nn := 0) (d := d + 35) (c_seen (d := d + 28) hl c1 c5.2.1 c5.2.2.1 fa.2 (fun no => h 1 σ XO.rf ?_) (fun p k hp ex s1 s2 hk ek => ?_)))
  · refine m_seen (d := d + 35) hS o2 m1.1 m3.1 fa.2 (fun _ => ?_) (fun p k hp ex s1 s2 hk ek => absurd ⟨⟨p, hp, ex⟩, ⟨s1, s2⟩, k, hk, ek⟩ no)
    refine thr ?_
    have Z : MZ False (fun f => f = 0) (fun _ _ => False) σ (sI σ 13 0 0 1) := MZ.rf.set rfl
    exact ⟨gI_self, fun z => absurd z (by decide), hI.mz Z (fun f x => by unfold pAll at x; omega) (fun c a x => ⟨by unfold qAll at x; omega, fun z => z⟩), (XK.mz Z).xo⟩
  · show vp_in 0 (gN σ 24 p5) ∧ _
    refine ⟨h24, h 0 _ ⟨eqK.rf, fun _ => rfl⟩ ?_⟩
    refine m_seen (d := d + 35) (σ := sL σ 24 p5 (0 : Int32).toNatClampNeg (nI (timN fP fS x sc k)).toInt64) hS o2 m1.1 m3.1 fa.2 (fun no => absurd ⟨⟨p, hp, ex⟩, ⟨s1, s2⟩, k, hk, ek⟩ no) (fun p' k' hp' ex' s1' s2' hk' ek' => ?_)
    have e : k' = k := (nI_eq (by have := fa.2; omega) (by have := fa.2; omega)).mp (ek'.symm.trans ek)
    subst e
    refine thr ?_
    have iv : Inv D (T0 (sL σ 24 p5 (0 : Int32).toNatClampNeg (nI (timN fP fS x sc k')).toInt64)) := hI.sL.t0
    refine ⟨T0_0, fun _ => ?_, iv, ⟨eqK_sI (by decide), fun _ => rfl⟩⟩
    show gL (sL σ 24 p5 (0 : Int32).toNatClampNeg _) 24 p5 (0 : Int32).toNatClampNeg = (nI (timN (fun i => gA σ 26 8 i) (fun i => gA σ 26 9 i) x sc k')).toInt64
    rw [tim k' hk, gL_sL, if_pos ⟨rfl, rfl, rfl⟩]
end OPSEEN
