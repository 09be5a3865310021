/-! Calls of the class: people, tape, answers. -/
section OPS
variable {G : GG} {l : Launch} {d : Nat} {post : Option AVal → AS → Prop} {σ : AS} {kk nn : Nat}
def okP (a b c e f : Int32) : Prop := (¬ a < 0 ∧ ¬ 99 < a) ∧ (¬ b < 50 ∧ ¬ 230 < b) ∧ (¬ c < 0 ∧ ¬ 65535 < c) ∧ (¬ e < 0 ∧ ¬ 3 < e) ∧ (¬ f < 1 ∧ ¬ 30 < f)
theorem c_withinB {x lo hi : Int32} (h0 : ¬ (¬ x < lo ∧ ¬ hi < x) → post (some (xI 0)) σ) (h1 : (¬ x < lo ∧ ¬ hi < x) → post (some (xI 1)) σ) : AMet G l M_X11_within d 0 0 [xI x, xI lo, xI hi] σ post := c_within (fun c => h0 (fun z => c.elim z.1 z.2)) (fun c1 c2 => h1 ⟨c1, c2⟩)
/-- a new person's fields -/
def PerN (σ : AS) (p : Nat) (a b c e f : Int32) : Prop := gI σ 6 0 p = nI p ∧ gI σ 6 1 p = a ∧ gI σ 6 2 p = b ∧ gI σ 6 3 p = c ∧ gI σ 6 4 p = e ∧ gI σ 6 5 p = f ∧ (∀ g, 6 ≤ g → gI σ 6 g p = 0) ∧ gR σ 6 11 p = none
theorem c_person {N : Nat} {a b c e f : Int32} (hS : St σ) (hW : LW σ) (hA : AL σ 0 N (fun p => (6, p))) (h0' : 0 < cnt σ 0) (hN : N ≤ 40) (h6 : cnt σ 6 = N) (hkk : 2 ≤ kk) (hnn : 72 ≤ nn)
    (h0 : ¬ (okP a b c e f ∧ N < 40) → post (some (xI (-1))) σ)
    (h1 : okP a b c e f → N < 40 → ∀ σ', sameK (fun c => c ≠ 0 ∧ c ≠ 6 ∧ c ≠ 23) σ σ' → oldO N σ σ' 6 → LQ (fun q => q ≠ 0) σ σ' → cnt σ' 6 = N + 1 → AL σ' 0 (N + 1) (fun p => (6, p)) → PerN σ' N a b c e f → post (some (xI (nI N))) σ') : AMet G l M_X11_person (d + 7) kk nn [xR (some (12, 0)), xI a, xI b, xI c, xI e, xI f] σ post := by
  refine AMet.of rfl (Nat.le_of_ble_eq_true rfl) (vc_X11_person (d := d + 6) (c_withinB (fun z => ⟨fun _ => vc_X11_person_57 (h0 (fun q => z q.1.1)), fun z2 => absurd rfl z2⟩) (fun z1 => ⟨fun z => absurd z (by decide), fun _ => c_withinB (fun z => ⟨fun _ => vc_X11_person_57 (h0 (fun q => z q.1.2.1)), fun z2 => absurd rfl z2⟩) (fun z2 => ⟨fun z => absurd z (by decide), fun _ => c_withinB (fun z => ⟨fun _ => vc_X11_person_57 (h0 (fun q => z q.1.2.2.1)), fun z2 => absurd rfl z2⟩) (fun z3 => ⟨fun z => absurd z (by decide), fun _ => c_withinB (fun z => ⟨fun _ => vc_X11_person_57 (h0 (fun q => z q.1.2.2.2.1)), fun z2 => absurd rfl z2⟩) (fun z4 => ⟨fun z => absurd z (by decide), fun _ => c_withinB (fun z => ⟨hS, fun _ => vc_X11_person_57 (h0 (fun q => z q.1.2.2.2.2)), fun z2 => absurd rfl z2⟩) (fun z5 => ⟨hS, fun z => absurd z (by decide), fun _ => ?_⟩)⟩)⟩)⟩)⟩)))
  have hok : okP a b c e f := ⟨z1, z2, z3, z4, z5⟩
  refine c_size hA ⟨hS, fun z => c_size hA ⟨hS, kk - 1, nn - 12, by omega, by omega, ?_⟩, fun z => h0 (fun q => z (nI_lt q.2 (by decide)))⟩
  have hlt : N < 40 := (nI_ltI (b := 40) (by omega) (by decide)).mp z
  refine AMet.of rfl (Nat.le_of_ble_eq_true rfl) (vc_X5_init ?_)
  rw [h6]
  have K6 : sameK (fun c => c ≠ 6) σ (sI (sI (sI (sI (sI (sI (nO σ 6) 6 0 N (nI N)) 6 1 N a) 6 2 N b) 6 3 N c) 6 4 N e) 6 5 N f) := fun c hc => ((((((eqK_nO hc).tr (eqK_sI hc)).tr (eqK_sI hc)).tr (eqK_sI hc)).tr (eqK_sI hc)).tr (eqK_sI hc)).tr (eqK_sI hc)
  have O6 : oldO N σ (sI (sI (sI (sI (sI (sI (nO σ 6) 6 0 N (nI N)) 6 1 N a) 6 2 N b) 6 3 N c) 6 4 N e) 6 5 N f) 6 := ((((((oldO_new (by omega)).tr (oldO_sI (Nat.le_refl _))).tr (oldO_sI (Nat.le_refl _))).tr (oldO_sI (Nat.le_refl _))).tr (oldO_sI (Nat.le_refl _))).tr (oldO_sI (Nat.le_refl _))).tr (oldO_sI (Nat.le_refl _))
  have C6 : cnt (sI (sI (sI (sI (sI (sI (nO σ 6) 6 0 N (nI N)) 6 1 N a) 6 2 N b) 6 3 N c) 6 4 N e) 6 5 N f) 6 = N + 1 := by
    rw [cnt_sI, cnt_sI, cnt_sI, cnt_sI, cnt_sI, cnt_sI, cnt_nO, if_pos rfl, h6]
  have P6 : PerN (sI (sI (sI (sI (sI (sI (nO σ 6) 6 0 N (nI N)) 6 1 N a) 6 2 N b) 6 3 N c) 6 4 N e) 6 5 N f) N a b c e f := by
    refine ⟨?_, ?_, ?_, ?_, ?_, gI_self, fun g hg => ?_, ?_⟩
    · rw [gI_o (by omega), gI_o (by omega), gI_o (by omega), gI_o (by omega), gI_o (by omega), gI_self]
    · rw [gI_o (by omega), gI_o (by omega), gI_o (by omega), gI_o (by omega), gI_self]
    · rw [gI_o (by omega), gI_o (by omega), gI_o (by omega), gI_self]
    · rw [gI_o (by omega), gI_o (by omega), gI_self]
    · rw [gI_o (by omega), gI_self]
    · rw [gI_o (by omega), gI_o (by omega), gI_o (by omega), gI_o (by omega), gI_o (by omega), gI_o (by omega), gI_nO, if_pos ⟨rfl, h6.symm⟩]
    · rw [gR_sI, gR_sI, gR_sI, gR_sI, gR_sI, gR_sI, gR_nO, if_pos ⟨rfl, h6.symm⟩]
  generalize sI (sI (sI (sI (sI (sI (nO σ 6) 6 0 N (nI N)) 6 1 N a) 6 2 N b) 6 3 N c) 6 4 N e) 6 5 N f = σ1 at *
  have l1 : sameK (fun c => c = 0 ∨ c = 23) σ σ1 := K6.sub (fun c hc => by rcases hc with rfl | rfl <;> decide)
  refine ⟨1, 60, kk - 2, nn - 72, by omega, by omega, c_add (hW.same l1) (by rw [(l1 0 (Or.inl rfl)).1]; exact h0') (hA.same l1) (by show 6 < 14; omega) (by omega) (Or.inr ⟨Nat.le_refl _, by unfold ncap; split <;> omega⟩) (fun σ2 D A2 _ => ?_)⟩
  have q6 := D.1 6 (by decide)
  refine h1 hok hlt σ2 (fun c hc => (K6 c hc.2.1).tr (D.1 c ⟨hc.1, hc.2.2⟩)) (O6.tr q6.oldO) ((LQ.same l1).tr (LQ.add D (fun z => z rfl))) (q6.1.trans C6) ?_ ⟨(q6.2.1 0 _).trans P6.1, (q6.2.1 1 _).trans P6.2.1, (q6.2.1 2 _).trans P6.2.2.1, (q6.2.1 3 _).trans P6.2.2.2.1, (q6.2.1 4 _).trans P6.2.2.2.2.1, (q6.2.1 5 _).trans P6.2.2.2.2.2.1, fun g hg => (q6.2.1 g _).trans (P6.2.2.2.2.2.2.1 g hg), (q6.2.2.1 11 _).trans P6.2.2.2.2.2.2.2⟩
  exact A2.fits (fun i hi => by
    show (if i = N then ((6 : Nat), N) else (6, i)) = (6, i)
    by_cases w : i = N
    · rw [if_pos w, w]
    · rw [if_neg w])
theorem c_away {N : Nat} {x is : Int32} (hS : St σ) (hA : AL σ 0 N (fun p => (6, p))) (hr : ∀ p, p < N → ∀ n, gR σ 6 11 p = some n → ∃ y, n = (2, y)) (his : is = 0 ∨ is = 1) (h0 : (∀ p, p < N → x = nI p → gR σ 6 11 p ≠ none) → post (some (xI 0)) σ) (h1 : ∀ p, p < N → x = nI p → gR σ 6 11 p = none → post (some (xI 1)) (sI σ 6 6 p is)) : AMet G l M_X11_away (d + 5) 0 0 [xR (some (12, 0)), xI x, xI is] σ post := by
  refine AMet.of rfl (Nat.le_of_ble_eq_true rfl) (vc_X11_away (d := d + 4) (c_find hS hA (fun _ _ => rfl) (fun hn => ⟨fun _ => h0 (fun p hp e => absurd e (hn p hp)), fun n e => (by cases e)⟩) (fun p hp e => ⟨fun z => (by cases z), fun n z => ⟨p, (by cases z; rfl), fun z2 => ⟨?_, ?_, h1 p hp e z2⟩, fun n z2 => ?_⟩⟩)))
  · rcases his with rfl | rfl <;> decide
  · rcases his with rfl | rfl <;> decide
  · obtain ⟨y, ey⟩ := hr p hp n z2
    refine ⟨y, ey, h0 (fun q hq e2 => ?_)⟩
    have hn := hA.n_lt
    have : p = q := (nI_eq (by omega) (by omega)).mp (e.symm.trans e2)
    rw [← this, z2]; simp
theorem c_about {N : Nat} {x w : Int32} (hS : St σ) (hA : AL σ 0 N (fun p => (6, p))) (h0 : (∀ p, p < N → ¬ x = nI p) → post (some (xI (-1))) σ) (h1 : ∀ p, p < N → x = nI p → post (some (xI (ansP (fun f => gI σ 6 f p) w))) σ) : AMet G l M_X11_about (d + 5) 0 0 [xR (some (12, 0)), xI x, xI w] σ post :=
  AMet.of rfl (Nat.le_of_ble_eq_true rfl) (vc_X11_about (d := d + 4) (c_find hS hA (fun _ _ => rfl) (fun hn => ⟨fun _ => h0 hn, fun n e => (by cases e)⟩) (fun p hp e => ⟨fun z => (by cases z), fun n z => ⟨p, (by cases z; rfl), c_ansP (h1 p hp e)⟩⟩)))
theorem c_called {N q K a0 : Nat} {asg : Nat → Option Nat} {x : Int32} (hP : PicS N q K a0 σ) (hA : Seat N K a0 σ asg) (h0 : (∀ p, p < N → ¬ x = nI p) → post (some (xI (-1))) σ) (h1 : ∀ p, p < N → x = nI p → post (some (xI (rI (asg p)))) σ) : AMet G l M_X11_called (d + 5) 0 0 [xR (some (12, 0)), xI x] σ post := by
  refine AMet.of rfl (Nat.le_of_ble_eq_true rfl) (vc_X11_called (d := d + 4) (c_find hP.1 hP.2.1 (fun _ _ => rfl) (fun hn => ⟨fun _ => h0 hn, fun n e => (by cases e)⟩) (fun p hp e => ⟨fun z => (by cases z), fun n z => ⟨p, (by cases z; rfl), fun z2 => ?_, fun n z2 => ?_⟩⟩)))
  · have k := h1 p hp e
    rw [hA.1 p hp] at z2
    cases c : asg p with
    | none => rw [c] at k; exact k
    | some a => rw [c] at z2; cases z2
  · have k := h1 p hp e
    have r := hA.1 p hp
    cases c : asg p with
    | none => rw [r, c] at z2; cases z2
    | some a =>
      rw [c] at r k
      have r' : gR σ 6 11 p = some (2, a0 + a) := r
      refine ⟨a0 + a, by rw [r'] at z2; cases z2; rfl, a0 + a, r', ?_⟩
      rw [hP.2.2.2.2.2.2.2.2.2 a (hA.2.1 p hp a c)]
      exact k
theorem c_ask {N q K a0 : Nat} {x w : Int32} (hP : PicS N q K a0 σ) (h0 : (∀ a, a < K → ¬ x = nI a) → post (some (xI (-1))) σ) (h1 : ∀ a, a < K → x = nI a → post (some (xI (ansA (fun f => gI σ 2 f (a0 + a)) w))) σ) : AMet G l M_X11_ask (d + 5) 0 0 [xR (some (12, 0)), xI x, xI w] σ post :=
  AMet.of rfl (Nat.le_of_ble_eq_true rfl) (vc_X11_ask (d := d + 4) hP.1 (c_findA hP.2.2.2.2.2.1 hP.2.2.2.2.2.2.1 (fun _ _ => rfl) (fun hn => ⟨fun _ => h0 hn, fun n e => (by cases e)⟩) (fun a ha e => ⟨fun z => (by cases z), fun n z => ⟨a0 + a, (by cases z; rfl), c_ansA (h1 a ha e)⟩⟩)))
theorem c_place (hS : St σ) (h : post (some (xI (gI σ 10 1 0))) σ) : AMet G l M_X11_place d 0 0 [xR (some (12, 0))] σ post := AMet.of rfl (Nat.le_of_ble_eq_true rfl) (vc_X11_place hS h)
theorem c_end {n : Nat} {b : Nat → Int32} {x : Int32} (hS : St σ) (hR : RW σ 0 n b) (h0 : (∀ k, k ≤ n → ¬ x = nI k) → post (some (xI (-1))) σ) (h1 : ∀ k, k ≤ n → x = nI k → post (some (xI x)) (sI σ 8 1 0 x)) : AMet G l M_X11_end (d + 1) 0 0 [xR (some (12, 0)), xI x] σ post := by
  have hn := hR.lt
  refine AMet.of rfl (Nat.le_of_ble_eq_true rfl) (vc_X11_end (d := d) hS ?_)
  rw [hR.size]
  refine c_within (fun c => ⟨hS, fun z => absurd rfl z, fun _ => h0 (fun k hk e => ?_)⟩) (fun c1 c2 => ⟨hS, fun _ => ?_, fun z => absurd z (by decide)⟩)
  · subst e
    rcases c with c | c
    · exact nI_pos (by omega) c
    · have := (nI_ltI (by omega) (by omega)).mp c; omega
  · obtain ⟨k, hk, rfl⟩ := nI_of c1
    exact h1 k (Nat.le_of_not_lt fun z => c2 (nI_lt z hk)) rfl
theorem c_moved {n : Nat} {b : Nat → Int32} {x : Int32} (hS : St σ) (hR : RW σ 4 n b) (h0 : (∀ k, k < n → ¬ x = nI k) → post (some (xI (-1))) σ) (h1 : ∀ k, k < n → x = nI k → post (some (xI (b k))) σ) : AMet G l M_X11_moved (d + 1) 0 0 [xR (some (12, 0)), xI x] σ post := by
  have hn := hR.lt
  refine AMet.of rfl (Nat.le_of_ble_eq_true rfl) (vc_X11_moved (d := d) hS ?_)
  by_cases c : x < 0
  · exact c_atNeg c (h0 (fun k hk e => by subst e; exact nI_pos (by omega) c))
  · obtain ⟨k, hk, rfl⟩ := nI_of c
    refine c_at hR hk ?_
    show post (some (xI (rAt n b k))) σ
    unfold rAt
    by_cases z : k < n
    · rw [if_pos z]; exact h1 k z rfl
    · rw [if_neg z]; exact h0 (fun j hj e => z (by have := (nI_eq hk (by omega)).mp e; omega))
theorem c_lacks {n : Nat} {b : Nat → Int32} {x : Int32} (hS : St σ) (hR : RW σ 5 n b) (h0 : (∀ k, k < n → ¬ x = nI k) → post (some (xI (-1))) σ) (h1 : ∀ k, k < n → x = nI k → post (some (xI (b k))) σ) : AMet G l M_X11_lacks (d + 1) 0 0 [xR (some (12, 0)), xI x] σ post := by
  have hn := hR.lt
  refine AMet.of rfl (Nat.le_of_ble_eq_true rfl) (vc_X11_lacks (d := d) hS ?_)
  by_cases c : x < 0
  · exact c_atNeg c (h0 (fun k hk e => by subst e; exact nI_pos (by omega) c))
  · obtain ⟨k, hk, rfl⟩ := nI_of c
    refine c_at hR hk ?_
    show post (some (xI (rAt n b k))) σ
    unfold rAt
    by_cases z : k < n
    · rw [if_pos z]; exact h1 k z rfl
    · rw [if_neg z]; exact h0 (fun j hj e => z (by have := (nI_eq hk (by omega)).mp e; omega))
theorem c_tell {N n T : Nat} {P S : Nat → Int32} {x sc : Int32} (hS : St σ) (hA : AL σ 0 N (fun p => (6, p))) (hR2 : RW σ 2 n P) (hR3 : RW σ 3 n S) (hT : gI σ 5 2 0 = nI T) (hT2 : T ≤ 200) (hn : T < 200 → n < 2600)
    (h0 : ¬ ((∃ p, p < N ∧ x = nI p) ∧ (¬ sc < 0 ∧ ¬ 19 < sc) ∧ T < 200) → post (some (xI (-1))) σ)
    (h1 : ∀ p, p < N → x = nI p → ¬ sc < 0 → ¬ 19 < sc → T < 200 → ∀ σ', sameK (fun c => c ≠ 5 ∧ c ≠ 6 ∧ c ≠ 8 ∧ c ≠ 20) σ σ' → NF (sI σ 5 2 0 (nI (T + 1))) σ' → gI σ' 5 2 0 = nI (T + 1) → (∀ f i, ¬ (f = 9 ∧ i = p) → gI σ' 6 f i = gI σ 6 f i) → gI σ' 6 9 p = gI σ 6 9 p ||| (1 <<< (sc &&& 31)) → RW σ' 2 (n + 1) (snoc P n (gI σ 6 0 p)) → RW σ' 3 (n + 1) (snoc S n sc) → post (some (xI (nI n))) σ') : AMet G l M_X11_tell (d + 5) 0 0 [xR (some (12, 0)), xI x, xI sc] σ post := by
  refine AMet.of rfl (Nat.le_of_ble_eq_true rfl) (vc_X11_tell (d := d + 4) (c_find hS hA (fun _ _ => rfl) (fun hn' => ⟨fun _ => h0 (fun z => by obtain ⟨⟨p, hp, e⟩, -⟩ := z; exact hn' p hp e), fun n e => (by cases e)⟩) (fun p hp e => ⟨fun z => (by cases z), fun n' z => ⟨p, (by cases z; rfl), c_isScene (fun c => ⟨hS, fun _ => h0 (fun z => c.elim z.2.1.1 z.2.1.2), fun z => absurd rfl z⟩) (fun c1 c2 => ⟨hS, fun z => absurd z (by decide), fun _ => ?_⟩)⟩⟩)))
  rw [hT]
  refine ⟨fun c => ?_, fun c => h0 (fun z => c (nI_lt z.2.2 (by decide)))⟩
  have hlt : T < 200 := (nI_ltI (b := 200) (by omega) (by decide)).mp c
  rw [nI_1]
  have K5 : sameK (fun c => c ≠ 5) σ (sI σ 5 2 0 (nI (T + 1))) := fun c hc => eqK_sI hc
  refine c_factAdd (d := d + 3) (σ := sI σ 5 2 0 (nI (T + 1))) hS.sI (hR2.same K5 (by decide) (by decide)) (hR3.same K5 (by decide) (by decide)) (hn hlt) (fun σ' F K o n9 X2 X3 => ?_)
  have g6 : ∀ f i, gI (sI σ 5 2 0 (nI (T + 1))) 6 f i = gI σ 6 f i := fun f i => gI_o (fun z => absurd z.1 (by decide))
  refine h1 p hp e c1 c2 hlt σ' (fun c hc => (K5 c hc.1).tr (K c ⟨hc.2.1, hc.2.2.1, hc.2.2.2⟩)) F ?_ (fun f i z => (o f i z).trans (g6 f i)) (by rw [n9, g6]) (by rw [g6] at X2; exact X2) X3
  rw [(K 5 (by decide)).2.1, gI_self]
end OPS
