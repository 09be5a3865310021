/-! Laying the plan: what it is, and that the class lays it so. -/
section LAY
variable {G : GG} {l : Launch} {d : Nat} {post : Option AVal → AS → Prop} {σ : AS} {kk nn : Nat}
noncomputable def hallD (N K : Nat) (can : Nat → Nat → Bool) (r : Nat → Nat) (P : Nat → Bool) : Bool := @decide (hall N K can r P) (Classical.propDecidable _)
theorem hallD_iff {N K : Nat} {can : Nat → Nat → Bool} {r : Nat → Nat} {P : Nat → Bool} : hallD N K can r P = true ↔ hall N K can r P := @decide_eq_true_iff (hall N K can r P) (Classical.propDecidable _)
noncomputable def stepW (N K : Nat) (can : Nat → Nat → Bool) (w : Nat → Nat) (W : Nat → Bool) (p : Nat) : Nat → Bool := fun q => W q || (decide (q = p) && hallD N K can w (fun x => W x || decide (x = p)))
/-- who is called, people by their turns, then by their numbers: behind i of 61 N looks -/
noncomputable def WL (turn : Nat → Nat) (N K : Nat) (can : Nat → Nat → Bool) (w : Nat → Nat) : Nat → Nat → Bool
  | 0 => fun _ => false
  | i + 1 => if turn (i % N) = i / N then stepW N K can w (WL turn N K can w i) (i % N) else WL turn N K can w i
def goodL (N K : Nat) (can : Nat → Nat → Bool) (w : Nat → Nat) (W : Nat → Bool) (fin : Nat → Option Nat) (p a : Nat) : Prop := can p a = true ∧ cA fin a p < w a ∧ hall N K can (fun x => w x - cA fin x p - (if x = a then 1 else 0)) (fun q => W q && decide (p < q))
def FinAt (N K : Nat) (can : Nat → Nat → Bool) (w : Nat → Nat) (W : Nat → Bool) (fin : Nat → Option Nat) (p : Nat) : Prop := (W p = false → fin p = none) ∧ (W p = true → ∃ a, a < K ∧ fin p = some a ∧ goodL N K can w W fin p a ∧ ∀ a', a' < a → ¬ goodL N K can w W fin p a')
theorem goodL_congr {N K : Nat} {can : Nat → Nat → Bool} {w : Nat → Nat} {W : Nat → Bool} {fin fin' : Nat → Option Nat} {p a : Nat} (h : ∀ q, q < p → fin q = fin' q) (k : goodL N K can w W fin p a) : goodL N K can w W fin' p a := by
  have e : ∀ x, cA fin' x p = cA fin x p := fun x => cA_congr p (fun q hq => by rw [h q hq])
  unfold goodL at k ⊢
  refine ⟨k.1, by rw [e]; exact k.2.1, ?_⟩
  have e2 : (fun x => w x - cA fin' x p - (if x = a then 1 else 0)) = (fun x => w x - cA fin x p - (if x = a then 1 else 0)) := funext fun x => by rw [e]
  rw [e2]; exact k.2.2
theorem FinAt_congr {N K : Nat} {can : Nat → Nat → Bool} {w : Nat → Nat} {W : Nat → Bool} {fin fin' : Nat → Option Nat} {p : Nat} (h : ∀ q, q ≤ p → fin q = fin' q) (k : FinAt N K can w W fin p) : FinAt N K can w W fin' p := by
  refine ⟨fun z => (h p (Nat.le_refl p)).symm.trans (k.1 z), fun z => ?_⟩
  obtain ⟨a, h1, h2, h3, h4⟩ := k.2 z
  exact ⟨a, h1, (h p (Nat.le_refl p)).symm.trans h2, goodL_congr (fun q hq => h q (by omega)) h3, fun a' ha' g => h4 a' ha' (goodL_congr (fun q hq => (h q (by omega)).symm) g)⟩
theorem Fin_uniq {N K : Nat} {can : Nat → Nat → Bool} {w : Nat → Nat} {W : Nat → Bool} {fin fin' : Nat → Option Nat} (h : ∀ p, p < N → FinAt N K can w W fin p) (h' : ∀ p, p < N → FinAt N K can w W fin' p) : ∀ p, p < N → fin p = fin' p := by
  intro p
  induction p using Nat.strongRecOn with
  | _ p ih =>
    intro hp
    have eq : ∀ q, q < p → fin q = fin' q := fun q hq => ih q hq (by omega)
    cases c : W p
    · rw [(h p hp).1 c, (h' p hp).1 c]
    · obtain ⟨a, h1, h2, h3, h4⟩ := (h p hp).2 c
      obtain ⟨b, k1, k2, k3, k4⟩ := (h' p hp).2 c
      have : a = b := by
        rcases Nat.lt_trichotomy a b with z | z | z
        · exact absurd (goodL_congr eq h3) (k4 a z)
        · exact z
        · exact absurd (goodL_congr (fun q hq => (eq q hq).symm) k3) (h4 b z)
      rw [h2, k2, this]
/-- a frame of both: looking and seating -/
def PF (σ σ' : AS) : Prop := sameK (fun c => c ≠ 2 ∧ c ≠ 6 ∧ c ≠ 7) σ σ' ∧ (∀ c, cnt σ' c = cnt σ c) ∧ (∀ c i, gN σ' c i = gN σ c i) ∧ (∀ f i, f ≠ 6 → gI σ' 2 f i = gI σ 2 f i) ∧ (∀ f i, gR σ' 2 f i = gR σ 2 f i) ∧ (∀ f i, f ≠ 10 → gI σ' 6 f i = gI σ 6 f i) ∧ (∀ f i, f ≠ 11 → gR σ' 6 f i = gR σ 6 f i) ∧ (∀ f i, f ≠ 3 → gI σ' 7 f i = gI σ 7 f i) ∧ (∀ f i, gR σ' 7 f i = gR σ 7 f i)
theorem PF.tr {σ1 σ2 : AS} (h : PF σ σ1) (k : PF σ1 σ2) : PF σ σ2 := ⟨h.1.tr k.1, fun c => (k.2.1 c).trans (h.2.1 c), fun c i => (k.2.2.1 c i).trans (h.2.2.1 c i), fun f i z => (k.2.2.2.1 f i z).trans (h.2.2.2.1 f i z), fun f i => (k.2.2.2.2.1 f i).trans (h.2.2.2.2.1 f i), fun f i z => (k.2.2.2.2.2.1 f i z).trans (h.2.2.2.2.2.1 f i z), fun f i z => (k.2.2.2.2.2.2.1 f i z).trans (h.2.2.2.2.2.2.1 f i z), fun f i z => (k.2.2.2.2.2.2.2.1 f i z).trans (h.2.2.2.2.2.2.2.1 f i z), fun f i => (k.2.2.2.2.2.2.2.2 f i).trans (h.2.2.2.2.2.2.2.2 f i)⟩
theorem SF.pf {σ' : AS} (h : SF σ σ') : PF σ σ' := ⟨h.1, h.2.1, h.2.2.1, h.2.2.2.1, h.2.2.2.2.1, fun f i _ => h.2.2.2.2.2.1 f i, h.2.2.2.2.2.2.1, h.2.2.2.2.2.2.2.1, h.2.2.2.2.2.2.2.2⟩
theorem OF.pf {σ' : AS} (h : OF σ σ') : PF σ σ' := ⟨h.1.sub (fun c hc => hc.2.1), h.2.1, h.2.2.1, fun f i _ => (h.1 2 (by decide)).2.1 f i, fun f i => (h.1 2 (by decide)).2.2.1 f i, h.2.2.2.1, fun f i _ => h.2.2.2.2 f i, fun f i _ => (h.1 7 (by decide)).2.1 f i, fun f i => (h.1 7 (by decide)).2.2.1 f i⟩
theorem SF.steps {σ' : AS} {x : Nat} {s : List Int32} (h : SF σ σ') (k : StepsR σ x s) : StepsR σ' x s := by
  obtain ⟨a, h1, h2, h3, h4, h5, h6⟩ := k
  have q25 := h.1 25 (by decide)
  exact ⟨a, (h.2.2.2.2.1 5 x).trans h1, by rw [q25.1]; exact h2, (q25.2.2.2.1 a).trans h3, h4, fun j hj => (q25.2.2.2.2.1 a j).trans (h5 j hj), h6⟩
theorem SF.can {σ' : AS} {a0 : Nat} {s : Nat → List Int32} {day : Int32} {p a : Nat} (h : SF σ σ') : canC σ' a0 s day p a = canC σ a0 s day p a := by
  unfold canC
  rw [h.2.2.2.1 2 _ (by decide), opn_congr (fun k hk => h.2.2.2.2.2.1 k p)]
theorem c_seat {N q K a0 lo p : Nat} {ab : Int32} {can : Nat → Nat → Bool} {w : Nat → Nat} {asg : Nat → Option Nat} (hab : (ab = -1 ∧ lo = 0) ∨ ∃ p0, p0 < N ∧ ab = nI p0 ∧ lo = p0 + 1) (hp : p < N) (hn : asg p = none) (hP : PicS N q K a0 σ) (hA : Seat N K a0 σ asg) (hL : LayC N K a0 can w σ) (hc : capO N K w asg)
    (k0 : ∀ σ' T', SF σ σ' → Seat N K a0 σ' asg → InvT N K lo can w asg T' (fun _ => False) → (∀ a, a < K → can p a = true → T' a = true) → post none σ')
    (k1 : ∀ σ' asg1 b T', SF σ σ' → InvT N K lo can w asg T' (fun _ => False) → (∀ a, a < b → can p a = true → T' a = true) → Seat N K a0 σ' (updO asg1 p (some b)) → capO N K w asg1 → ChT N K lo can T' asg asg1 → b < K → can p b = true → cA asg1 b N < w b → asg1 p = none → post none σ') : AMet G l M_X6_seat (d + 18) 0 0 [xR (some (7, 0)), xR (some (6, p)), xI ab] σ post := by
  have se : SE G l N q K a0 lo ab can w 0 := (se_mr hab 7 0 rfl).2 (by decide)
  have hK := hP.2.2.2.2.2.2.2.1
  refine AMet.of rfl (Nat.le_of_ble_eq_true rfl) (vc_X6_seat (d := d + 17) ?_)
  have A1 : Seat N K a0 (sI σ 7 3 0 0) asg := ⟨hA.1, hA.2.1, fun x hx => by rw [gI_sI, if_neg (fun e => absurd e.1 (by decide))]; exact hA.2.2 x hx⟩
  have R1 : TR K (sI σ 7 3 0 0) (fun _ => false) := fun x hx => by rw [gI_self, jb_0 (by omega)]
  have z := se p (sI σ 7 3 0 0) asg (fun _ => false) (fun _ => False) (d + 17) (retI fun _ σ1 => post none σ1) hp (fun a e => (by rw [hn] at e; cases e)) (SF.setT.pic hP) A1 (SF.setT.lay hL) R1 hc ⟨fun a _ z => (by cases z), fun a _ z => (by cases z)⟩ (Nat.zero_le _) (by omega) (fun σ' T' F A _ _ I b => k0 σ' T' (SF.setT.tr F) A I b) (fun σ' asg1 b T' F _ I m A c h hb hcb _ lb ep => k1 σ' asg1 b T' (SF.setT.tr F) I m A c h hb hcb lb (ep.trans hn))
  rw [nI_0] at z
  exact z
/-- a plan -/
def Val (N : Nat) (can : Nat → Nat → Bool) (asg : Nat → Option Nat) : Prop := ∀ p, p < N → ∀ a, asg p = some a → can p a = true
theorem WL_at {turn : Nat → Nat} {N K : Nat} {can : Nat → Nat → Bool} {w : Nat → Nat} {t p : Nat} (hp : p < N) : WL turn N K can w (t * N + p + 1) = if turn p = t then stepW N K can w (WL turn N K can w (t * N + p)) p else WL turn N K can w (t * N + p) := by
  have e1 : (t * N + p) % N = p := by rw [Nat.add_comm, Nat.add_mul_mod_self_right, Nat.mod_eq_of_lt hp]
  have e2 : (t * N + p) / N = t := by rw [Nat.add_comm, Nat.add_mul_div_right _ _ (by omega), Nat.div_eq_of_lt hp, Nat.zero_add]
  rw [WL, e1, e2]
theorem cap_upd {N K p b : Nat} {w : Nat → Nat} {asg1 : Nat → Option Nat} (hp : p < N) (hc : capO N K w asg1) (hn : asg1 p = none) (hb : cA asg1 b N < w b) : capO N K w (updO asg1 p (some b)) := fun x hx => by
  have k := cA_upd (asg := asg1) (a := x) (p := p) (v := some b) N hp
  have cx := hc x hx
  rw [hn, if_neg (by simp)] at k
  by_cases e : x = b
  · subst e
    rw [if_pos rfl] at k; omega
  · rw [if_neg (by simpa using fun z => e z.symm)] at k; omega
theorem c_layFor {N q K a0 : Nat} {asg : Nat → Option Nat} {s : Nat → List Int32} {w turn : Nat → Nat} {day : Int32} (hP : PicS N q K a0 σ) (hA : Seat N K a0 σ asg) (hs : ∀ a, a < K → StepsR σ (a0 + a) (s a)) (hw : ∀ a, a < K → gI σ 2 4 (a0 + a) = nI (w a) ∧ w a < 2 ^ 31) (ht : ∀ p, p < N → gI σ 6 7 p = nI (turn p) ∧ turn p ≤ 60)
    (h : ∀ σ' asg', PF σ σ' → Seat N K a0 σ' asg' → (∀ p, p < N → FinAt N K (canC σ a0 s day) w (WL turn N K (canC σ a0 s day) w (61 * N)) asg' p) → (∀ p, p < N → (asg' p ≠ none ↔ WL turn N K (canC σ a0 s day) w (61 * N) p = true)) → post none σ') : AMet G l M_X6_layFor (d + 20) 0 0 [xR (some (7, 0)), xI day] σ post := by
  have hN := hP.2.2.1
  generalize hcan : canC σ a0 s day = can at h
  refine AMet.of rfl (Nat.le_of_ble_eq_true rfl) (vc_X6_layFor (d := d + 19) (c_dismiss hP hA (fun σ1 F1 _ A1 => ?_)))
  refine c_look (F1.pic hP) (fun a ha => F1.steps (hs a ha)) (fun σ2 F2 b2 => ?_)
  have P2 := F2.pic (F1.pic hP)
  have A2 := F2.seat A1
  have G2 : PF σ σ2 := F1.pf.tr F2.pf
  have L2 : LayC N K a0 can w σ2 := ⟨fun p hp a ha => by rw [b2 p hp a ha, F1.can, hcan], fun a ha => by rw [G2.2.2.2.1 4 _ (by decide)]; exact hw a ha⟩
  have phase2 : ∀ (W : Nat → Bool), W = WL turn N K can w (61 * N) → ∀ (f p : Nat) (σ3 : AS) (asg3 : Nat → Option Nat), N - p = f → p ≤ N → SF σ2 σ3 → Seat N K a0 σ3 asg3 → capO N K w asg3 → Val N can asg3 → (∀ p, p < N → (asg3 p ≠ none ↔ W p = true)) → (∀ x, x < p → FinAt N K can w W asg3 x) → AW G l M_X6_seatAllInLeast (d + 19) (fun v σ' => post v σ' ∧ v = none) σ3 0 0 2 [some (xR (some (7, 0))), some (xI (nI p)), none] [] := by
    intro W hW f
    induction f with
    | zero =>
      intro p σ3 asg3 hf hp F3 A3 c3 v3 d3 f3
      have P3 := F3.pic P2
      have e : p = N := by omega
      subst e
      refine vc_X6_seatAllInLeast_2 (d := d + 18) P3.1 (c_size P3.2.1 ⟨P3.1, fun _ => ⟨?_, rfl⟩, fun c => absurd (nI_le (Nat.le_refl p) (by omega)) c⟩)
      subst hW
      exact h σ3 asg3 (G2.tr F3.pf) A3 f3 d3
    | succ f ih =>
      intro p σ3 asg3 hf hp F3 A3 c3 v3 d3 f3
      have P3 := F3.pic P2
      have L3 := F3.lay L2
      have hpN : p < N := by omega
      refine vc_X6_seatAllInLeast_2 (d := d + 18) P3.1 (c_size P3.2.1 ⟨P3.1, fun c => absurd ((nI_leI (by omega) (by omega)).mp c) (by omega), fun _ => c_get P3.2.1 hpN ⟨p, rfl, fun c => ?_, fun n c => ?_⟩⟩)
      · rw [nI_1]
        have hn : asg3 p = none := by
          rw [A3.1 p hpN] at c
          cases q : asg3 p with
          | none => rfl
          | some a => rw [q] at c; cases c
        refine ih (p + 1) σ3 asg3 (by omega) (by omega) F3 A3 c3 v3 d3 (fun x hx => ?_)
        by_cases e : x = p
        · subst e
          refine ⟨fun _ => hn, fun z => absurd hn ((d3 x hpN).mpr z)⟩
        · exact f3 x (by omega)
      · obtain ⟨a1, e1⟩ : ∃ a1, asg3 p = some a1 := by
          rw [A3.1 p hpN] at c
          cases q : asg3 p with
          | none => rw [q] at c; cases c
          | some a => exact ⟨a, rfl⟩
        have ha1 := A3.2.1 p hpN a1 e1
        refine ⟨a0 + a1, by rw [A3.1 p hpN, e1] at c; cases c; rfl, c_move none P3 A3 hpN (fun a e => by cases e) (fun σ4 F4 _ A4 => ?_)⟩
        have P4 := F4.pic P3
        have cU := fun x => cA_upd (asg := asg3) (a := x) (p := p) (v := none) N hpN
        have c4 : capO N K w (updO asg3 p none) := fun x hx => by
          have := cU x
          have := c3 x hx
          rw [if_neg (c := (none : Option Nat) = some x) (by simp)] at *
          omega
        have n4 : updO asg3 p none p = none := if_pos rfl
        have o4 : ∀ x, x ≠ p → updO asg3 p none x = asg3 x := fun x hx => if_neg hx
        have Wp : W p = true := (d3 p hpN).mp (by rw [e1]; simp)
        refine c_seat (lo := p + 1) (Or.inr ⟨p, hpN, rfl, rfl⟩) hpN n4 P4 A4 (F4.lay L3) c4 (fun σ5 T F5 A5 I5 b5 => ?_) (fun σ5 asg5 b T F5 I5 m5 A5 c5 h5 hb hcb lb n5 => ?_)
        · have tt := b5 a1 ha1 (v3 p hpN a1 e1)
          have k1 := I5.1 a1 ha1 tt
          have k2 := cU a1
          rw [e1, if_pos rfl, if_neg (by simp)] at k2
          have k3 := c3 a1 ha1
          omega
        · rw [nI_1]
          have o5 : ∀ x, x < p → updO asg5 p (some b) x = asg3 x := fun x hx => by
            have : updO asg5 p (some b) x = asg5 x := if_neg (by omega)
            rw [this]
            rcases h5 x (by omega) with e | ⟨q, -⟩
            · rw [e]; exact o4 x (by omega)
            · omega
          have p5 : updO asg5 p (some b) p = some b := if_pos rfl
          have cap5 : capO N K w (updO asg5 p (some b)) := cap_upd hpN c5 n5 lb
          have v5 : Val N can (updO asg5 p (some b)) := fun x hx a e => by
            by_cases q : x = p
            · subst q; rw [p5] at e; cases e; exact hcb
            · have e' : asg5 x = some a := by rw [← e]; exact (if_neg q).symm
              rcases h5 x hx with e2 | ⟨-, y, y', z1, z2, -, -, -, -, z3⟩
              · exact v3 x hx a (by rw [← o4 x q, ← e2]; exact e')
              · rw [z2] at e'; cases e'; exact z3
          have d5 : ∀ x, x < N → (updO asg5 p (some b) x ≠ none ↔ W x = true) := fun x hx => by
            by_cases q : x = p
            · subst q; rw [p5]; simp [Wp]
            · have e' : updO asg5 p (some b) x = asg5 x := if_neg q
              rw [e', ← d3 x hx]
              rcases h5 x hx with e2 | ⟨-, y, y', z1, z2, -, -, -, -, z3⟩
              · rw [e2, o4 x q]
              · rw [z2, ← o4 x q, z1]; simp
          refine ih (p + 1) σ5 _ (by omega) (by omega) ((F3.tr F4).tr F5) A5 cap5 v5 d5 (fun x hx => ?_)
          by_cases q : x = p
          rotate_left
          · exact FinAt_congr (fun y hy => (o5 y (by omega)).symm) (f3 x (by omega))
          subst q
          have cAp : ∀ y, cA (updO asg5 x (some b)) y x = cA asg3 y x := fun y => cA_congr x (fun z hz => by rw [o5 z hz])
          have cAs : ∀ y, cA (updO asg5 x (some b)) y (x + 1) = cA (updO asg5 x (some b)) y x + (if y = b then 1 else 0) := fun y => by
            rw [cA, p5]
            by_cases e : y = b
            · rw [if_pos (by rw [e]), if_pos e]
            · rw [if_neg (by simpa using fun z => e z.symm), if_neg e]
          refine ⟨fun z => (by rw [Wp] at z; cases z), fun _ => ⟨b, hb, p5, ⟨hcb, ?_, ?_⟩, fun a' ha' g => ?_⟩⟩
          · have k1 := cA_mono (asg := updO asg5 x (some b)) (a := b) (m := x + 1) N (by omega)
            have k2 := cap5 b hb
            have k3 := cAs b
            rw [if_pos rfl] at k3
            omega
          · refine hall_of (updO asg5 x (some b)) (fun y hy z => ?_) (fun a ha => ?_)
            · have wy : W y = true := by cases q : W y <;> simp [q] at z ⊢
              have := (d5 y hy).mpr wy
              cases q : updO asg5 x (some b) y with
              | none => exact absurd q this
              | some a => exact ⟨a, A5.2.1 y hy a q, rfl, v5 y hy a q⟩
            · have k := cP_split (asg := updO asg5 x (some b)) (P := fun q => W q && decide (x < q)) (a := a) (m := x + 1) N (by omega) (fun y hy e => by
                have wy := (d5 y hy).mp (by rw [e]; simp)
                simp [wy]; omega)
              have k2 := cap5 a ha
              have k3 := cAs a
              show cP _ _ _ _ ≤ w a - cA (updO asg5 x (some b)) a x - _
              omega
          · obtain ⟨g1, g2, g3⟩ := g
            have ta := m5 a' ha' g1
            have cA0 : ∀ y, cA (updO asg3 x none) y (x + 1) = cA (updO asg5 x (some b)) y x := fun y => by
              rw [cA, n4, if_neg (by simp), cAp, Nat.add_zero]
              exact cA_congr x (fun z hz => by rw [o4 z (by omega)])
            have cPk : ∀ y, y < K → T y = true → w y = cA (updO asg5 x (some b)) y x + cP (updO asg3 x none) (fun q => W q && decide (x < q)) y N := fun y hy ty => by
              have k := cP_split (asg := updO asg3 x none) (P := fun q => W q && decide (x < q)) (a := y) (m := x + 1) N (by omega) (fun z hz e => by
                have nz : z ≠ x := fun q => by rw [q, n4] at e; cases e
                have wz := (d3 z hz).mp (by rw [← o4 z nz, e]; simp)
                simp [wz]; omega)
              rw [cA0, I5.1 y hy ty] at k
              exact k
            refine not_hall2 (updO asg3 x none) (T := T) (x := a') (fun y hy z a ha e t => ?_) (fun a ha t => ?_) (by omega) ta ?_ g3
            · have xy : x < y := by
                cases q : decide (x < y)
                · rw [q] at z; simp at z
                · exact of_decide_eq_true q
              exact decide_eq_true (fun c hc hcc => I5.2 a ha t (fun q => q) y (by omega) hy e c hc hcc)
            · have := cPk a ha t
              show w a - cA (updO asg5 x (some b)) a x - _ ≤ _
              omega
            · have := cPk a' (by omega) ta
              show w a' - cA (updO asg5 x (some b)) a' x - (if a' = a' then 1 else 0) < _
              rw [if_pos rfl]
              omega
  -- the first pass
  have phase1 : ∀ (g t : Nat) (σ3 : AS) (asg3 : Nat → Option Nat), 61 - t = g → t ≤ 61 → SF σ2 σ3 → Seat N K a0 σ3 asg3 → capO N K w asg3 → Val N can asg3 → (∀ p, p < N → (asg3 p ≠ none ↔ WL turn N K can w (t * N) p = true)) → (∀ p, p < N → WL turn N K can w (t * N) p = true → turn p * N + p < t * N) → AW G l M_X6_layFor (d + 20) post σ3 0 0 11 [some (xR (some (7, 0))), none, some (xI (nI t)), none] [] := by
    intro g
    induction g with
    | zero =>
      intro t σ3 asg3 hg ht61 F3 A3 c3 v3 d3 fr3
      have e : t = 61 := by omega
      subst e
      refine vc_X6_layFor_11 (d := d + 19) ⟨fun _ => ?_, fun c => absurd (nI_lt (show 60 < 61 by decide) (by decide)) c⟩
      refine AMet.of rfl (Nat.le_of_ble_eq_true rfl) (vc_X6_seatAllInLeast (d := d + 18) ?_)
      have k := phase2 _ rfl N 0 σ3 asg3 rfl (Nat.zero_le _) F3 A3 c3 v3 d3 (fun x hx => absurd hx (Nat.not_lt_zero x))
      rw [nI_0] at k
      exact k.posts (fun v σ' z => by obtain ⟨z1, rfl⟩ := z; exact z1)
    | succ g ihg =>
      intro t σ3 asg3 hg ht61 F3 A3 c3 v3 d3 fr3
      refine vc_X6_layFor_11 (d := d + 19) ⟨fun c => absurd ((nI_ltI (a := 60) (by decide) (by omega)).mp c) (by omega), fun _ => ?_⟩
      have inner : ∀ (f p : Nat) (σ4 : AS) (asg4 : Nat → Option Nat), N - p = f → p ≤ N → SF σ2 σ4 → Seat N K a0 σ4 asg4 → capO N K w asg4 → Val N can asg4 → (∀ x, x < N → (asg4 x ≠ none ↔ WL turn N K can w (t * N + p) x = true)) → (∀ x, x < N → WL turn N K can w (t * N + p) x = true → turn x * N + x < t * N + p) → AW G l M_X6_layFor (d + 20) post σ4 0 0 19 [some (xR (some (7, 0))), none, some (xI (nI t)), some (xI (nI p))] [] := by
        intro f
        induction f with
        | zero =>
          intro p σ4 asg4 hf hp F4 A4 c4 v4 d4 fr4
          have P4 := F4.pic P2
          have e : p = N := by omega
          subst e
          refine vc_X6_layFor_19 (d := d + 19) P4.1 (c_size P4.2.1 ⟨P4.1, fun _ => ?_, fun c => absurd (nI_le (Nat.le_refl p) (by omega)) c⟩)
          rw [nI_1]
          refine ihg (t + 1) σ4 asg4 (by omega) (by omega) F4 A4 c4 v4 ?_ ?_
          · rw [Nat.succ_mul]; exact d4
          · rw [Nat.succ_mul]; exact fr4
        | succ f ih =>
          intro p σ4 asg4 hf hp F4 A4 c4 v4 d4 fr4
          have P4 := F4.pic P2
          have hpN : p < N := by omega
          have G4 := G2.tr F4.pf
          refine vc_X6_layFor_19 (d := d + 19) P4.1 (c_size P4.2.1 ⟨P4.1, fun c => absurd ((nI_leI (by omega) (by omega)).mp c) (by omega), fun _ => c_get P4.2.1 hpN ⟨P4.1, p, rfl, fun c => ?_, fun c => c_get P4.2.1 hpN ⟨p, rfl, ?_⟩⟩⟩)
          · rw [G4.2.2.2.2.2.1 7 p (by decide), (ht p hpN).1] at c
            have hne : ¬ turn p = t := fun q => c (by rw [q])
            rw [nI_1]
            have e := WL_at (turn := turn) (K := K) (can := can) (w := w) (t := t) hpN
            rw [if_neg hne] at e
            refine ih (p + 1) σ4 asg4 (by omega) (by omega) F4 A4 c4 v4 ?_ ?_
            · rw [← Nat.add_assoc, e]; exact d4
            · rw [← Nat.add_assoc, e]
              intro x hx z
              have := fr4 x hx z
              omega
          · rw [G4.2.2.2.2.2.1 7 p (by decide), (ht p hpN).1] at c
            have htp : turn p = t := (nI_eq (by have := (ht p hpN).2; omega) (by omega)).mp c
            have e := WL_at (turn := turn) (K := K) (can := can) (w := w) (t := t) hpN
            rw [if_pos htp] at e
            have hWp : WL turn N K can w (t * N + p) p = false := by
              cases q : WL turn N K can w (t * N + p) p
              · rfl
              · have := fr4 p hpN q
                rw [htp] at this
                omega
            have hn : asg4 p = none := by
              cases q : asg4 p with
              | none => rfl
              | some a =>
                have := (d4 p hpN).mp (by rw [q]; simp)
                rw [hWp] at this; cases this
            refine c_seat (lo := 0) (Or.inl ⟨rfl, rfl⟩) hpN hn P4 A4 (F4.lay L2) c4 (fun σ5 T F5 A5 I5 b5 => ?_) (fun σ5 asg5 b T F5 I5 m5 A5 c5 h5 hb hcb lb n5 => ?_)
            · rw [nI_1]
              have nh : ¬ hall N K can w (fun x => WL turn N K can w (t * N + p) x || decide (x = p)) := by
                refine not_hall1 asg4 (T := T) (x := p) (fun y hy z a ha ey ty => ?_) (fun a ha ty => ?_) hpN (by simp) (decide_eq_true b5) hn
                · exact decide_eq_true (fun c hc hcc => I5.2 a ha ty (fun q => q) y (Nat.zero_le _) hy ey c hc hcc)
                · rw [cP_all N (fun y hy ey => by rw [(d4 y hy).mp (by rw [ey]; simp)]; rfl), I5.1 a ha ty]
                  exact Nat.le_refl _
              have hD : hallD N K can w (fun x => WL turn N K can w (t * N + p) x || decide (x = p)) = false := by
                cases q : hallD N K can w (fun x => WL turn N K can w (t * N + p) x || decide (x = p))
                · rfl
                · exact absurd (hallD_iff.mp q) nh
              have es : ∀ x, WL turn N K can w (t * N + p + 1) x = WL turn N K can w (t * N + p) x := fun x => by
                rw [e]; unfold stepW; rw [hD, Bool.and_false, Bool.or_false]
              refine ih (p + 1) σ5 asg4 (by omega) (by omega) (F4.tr F5) A5 c4 v4 ?_ ?_
              · intro x hx; rw [← Nat.add_assoc, es]; exact d4 x hx
              · intro x hx z
                rw [← Nat.add_assoc, es] at z
                have := fr4 x hx z
                omega
            · rw [nI_1]
              have p5 : updO asg5 p (some b) p = some b := if_pos rfl
              have cap5 : capO N K w (updO asg5 p (some b)) := cap_upd hpN c5 n5 lb
              have v5 : Val N can (updO asg5 p (some b)) := fun x hx a ex => by
                by_cases q : x = p
                · subst q; rw [p5] at ex; cases ex; exact hcb
                · have e' : asg5 x = some a := by rw [← ex]; exact (if_neg q).symm
                  rcases h5 x hx with e2 | ⟨-, y, y', z1, z2, -, -, -, -, z3⟩
                  · exact v4 x hx a (by rw [← e2]; exact e')
                  · rw [z2] at e'; cases e'; exact z3
              have dd : ∀ x, x < N → (updO asg5 p (some b) x ≠ none ↔ (WL turn N K can w (t * N + p) x || decide (x = p)) = true) := fun x hx => by
                by_cases q : x = p
                · subst q; rw [p5]; simp
                · have e' : updO asg5 p (some b) x = asg5 x := if_neg q
                  rw [e', decide_eq_false q, Bool.or_false, ← d4 x hx]
                  rcases h5 x hx with e2 | ⟨-, y, y', z1, z2, -, -, -, -, z3⟩
                  · rw [e2]
                  · rw [z2, z1]; simp
              have hh : hall N K can w (fun x => WL turn N K can w (t * N + p) x || decide (x = p)) := by
                refine hall_of (updO asg5 p (some b)) (fun y hy z => ?_) (fun a ha => ?_)
                · have := (dd y hy).mpr z
                  cases q : updO asg5 p (some b) y with
                  | none => exact absurd q this
                  | some a => exact ⟨a, A5.2.1 y hy a q, rfl, v5 y hy a q⟩
                · rw [cP_all N (fun y hy ey => (dd y hy).mp (by rw [ey]; simp))]
                  exact cap5 a ha
              have hD := hallD_iff.mpr hh
              have es : ∀ x, WL turn N K can w (t * N + p + 1) x = (WL turn N K can w (t * N + p) x || decide (x = p)) := fun x => by
                rw [e]; unfold stepW; rw [hD, Bool.and_true]
              refine ih (p + 1) σ5 _ (by omega) (by omega) (F4.tr F5) A5 cap5 v5 ?_ ?_
              · intro x hx; rw [← Nat.add_assoc, es]; exact dd x hx
              · intro x hx z
                rw [← Nat.add_assoc, es] at z
                by_cases q : x = p
                · subst q; rw [htp]; omega
                · rw [decide_eq_false q, Bool.or_false] at z
                  have := fr4 x hx z
                  omega
      have k := inner N 0 σ3 asg3 rfl (Nat.zero_le _) F3 A3 c3 v3 d3 fr3
      rw [nI_0] at k
      exact k
  have k := phase1 61 0 σ2 (fun _ => none) rfl (by decide) SF.rf A2 (fun a _ => by
    have : cA (fun _ => none) a N = 0 := by
      have : ∀ n, cA (fun _ => (none : Option Nat)) a n = 0 := by
        intro n
        induction n with
        | zero => rfl
        | succ n ih => rw [cA, ih, if_neg (by simp)]
      exact this N
    rw [this]; exact Nat.zero_le _) (fun p _ a e => by cases e) (fun p _ => by
      rw [Nat.zero_mul]
      show (none : Option Nat) ≠ none ↔ false = true
      simp) (fun p _ z => by
      rw [Nat.zero_mul] at z
      cases z)
  rw [nI_0] at k
  exact k
end LAY
