/-! The coupling: the class's part, the model's part, over the same data. -/
section INV
variable {σ : AS}
/-! the class's part -/
def PerC (σ : AS) (N : Nat) (per : Nat → Nat → Int32) : Prop := ∀ p, p < N → ∀ f, f ≠ 10 → gI σ 6 f p = per p f
def AskC (σ : AS) (K a0 an : Nat) (ab : Nat → Int32) : Prop := ∀ a, a < K → gI σ 2 1 (a0 + a) = (h0 an ab (ip an ab a)).2 ∧ gI σ 2 2 (a0 + a) = (h1 an ab (ip an ab a)).2 ∧ gI σ 2 3 (a0 + a) = (h2 an ab (ip an ab a)).2 ∧ gI σ 2 4 (a0 + a) = (h3 an ab (ip an ab a)).2 ∧ gI σ 2 7 (a0 + a) = 0 ∧ StepsR σ (a0 + a) (rdE an ab (hd an ab (ip an ab a)).2).2
def AgC (σ : AS) (A : Nat) (ax tq tc : Nat → Nat) (tt : Nat → Nat → Nat) (tf : Nat → Nat → Nat → Int32) : Prop := AL σ 1 A (fun g => (1, ax g)) ∧ ∀ g, g < A → ax g < cnt σ 1 ∧ gI σ 1 0 (ax g) = nI g ∧ gR σ 1 1 (ax g) = some (0, tq g) ∧ (6 ≤ tq g ∧ tq g < cnt σ 0) ∧ AL σ (tq g) (tc g) (fun j => (9, tt g j)) ∧ ∀ j, j < tc g → tt g j < cnt σ 9 ∧ ∀ f, f ≤ 3 → gI σ 9 f (tt g j) = tf g j f
def RecC (σ : AS) (R : Nat) (w : Nat → Nat) (rf : Nat → Nat → Int32) (rg : Nat → Option Nat) (ax : Nat → Nat) : Prop := AL σ 5 R (fun i => (11, i)) ∧ cnt σ 11 = R ∧ ∀ r, r < R → gR σ 11 0 r = some (6, w r) ∧ (∀ f, f ≠ 2 → gI σ 11 f r = rf r f) ∧ gR σ 11 8 r = (rg r).map (fun g => (1, ax g))
def RowC (σ : AS) (n F mvn lkn : Nat) (b fP fS mv lk : Nat → Int32) : Prop := RW σ 0 n b ∧ RW σ 2 F fP ∧ RW σ 3 F fS ∧ RW σ 4 mvn mv ∧ RW σ 5 lkn lk
def LisC (σ : AS) (q : Nat) : Prop := LW σ ∧ 5 < cnt σ 0 ∧ q < cnt σ 0 ∧ (q = 2 ∨ 6 ≤ q)
def CI (σ : AS) (D N K q a0 n an A R F T mvn lkn : Nat) (asg : Nat → Option Nat) (b ab fP fS mv lk : Nat → Int32) (per : Nat → Nat → Int32) (ax tq tc : Nat → Nat) (tt : Nat → Nat → Nat) (tf : Nat → Nat → Nat → Int32) (w : Nat → Nat) (rf : Nat → Nat → Int32) (rg : Nat → Option Nat) (pl : Int32) : Prop :=
  PicS N q K a0 σ ∧ Seat N K a0 σ asg ∧ LisC σ q ∧ (gI σ 12 10 0 = nI D ∧ gI σ 5 2 0 = nI T ∧ gI σ 10 1 0 = pl) ∧ RowC σ n F mvn lkn b fP fS mv lk ∧ PerC σ N per ∧ AskC σ K a0 an ab ∧ AgC σ A ax tq tc tt tf ∧ RecC σ R w rf rg ax
/-! what holds of the data -/
def PerOk (D N : Nat) (per : Nat → Nat → Int32) : Prop := ∀ p, p < N → per p 0 = nI p ∧ (∃ s, s ≤ 30 ∧ per p 5 = nI s) ∧ (∃ t, t ≤ D ∧ per p 7 = nI t) ∧ (per p 6 = 0 ∨ per p 6 = 1)
def SeenOk (N F : Nat) (fP fS : Nat → Int32) (per : Nat → Nat → Int32) : Prop := (∀ p, p < N → ∀ v, v < 20 → ((0 < timN fP fS (nI p) (nI v) F) ↔ jb (per p 9) (nI v) = true)) ∧ ∀ i, i < F → ∃ p, p < N ∧ fP i = nI p
def BytOk (n : Nat) (b : Nat → Int32) : Prop := n ≤ 1000 ∧ ∀ i, i < n → ∃ m, m < 256 ∧ b i = nI m
def AskOk (K an : Nat) (ab : Nat → Int32) : Prop := K ≤ 6 ∧ BytOk an ab ∧ ∀ a, a < K → ip an ab a ≤ an ∧ (hd an ab (ip an ab a)).1 = 0 ∧ (hd an ab (ip an ab a)).2 ≤ an ∧ (rdE an ab (hd an ab (ip an ab a)).2).1.1 = 0
def AgOk (A : Nat) (tc : Nat → Nat) (tf : Nat → Nat → Nat → Int32) : Prop := A ≤ 30 ∧ ∀ g, g < A → tc g ≤ 8 ∧ ∀ j, j < tc g → ∃ c, c ≤ 3 ∧ tf g j 0 = nI c
def RecOk (D N A R : Nat) (w : Nat → Nat) (rf : Nat → Nat → Int32) (rg : Nat → Option Nat) (Rs : Nat → Nat) : Prop := Rs 0 = 0 ∧ Rs D = R ∧ (∀ d, d < D → Rs d ≤ Rs (d + 1) ∧ Rs (d + 1) ≤ 40 * (d + 1)) ∧ (∀ r, r < R → w r < N ∧ (∀ g, rg r = some g → g < A) ∧ rf r 3 ≠ -1) ∧ (∀ d, d < D → ∀ r, Rs d ≤ r → r < Rs (d + 1) → rf r 1 = nI d) ∧ ∀ d, d < D → ∀ r r', Rs d ≤ r → r < r' → r' < Rs (d + 1) → w r < w r'
def OK (D N K n an A R F T mvn lkn : Nat) (b ab fP fS : Nat → Int32) (per : Nat → Nat → Int32) (tc : Nat → Nat) (tf : Nat → Nat → Nat → Int32) (w : Nat → Nat) (rf : Nat → Nat → Int32) (rg : Nat → Option Nat) (Rs : Nat → Nat) : Prop :=
  D ≤ 60 ∧ N ≤ 40 ∧ BytOk n b ∧ AskOk K an ab ∧ AgOk A tc tf ∧ PerOk D N per ∧ SeenOk N F fP fS per ∧ RecOk D N A R w rf rg Rs ∧ (T ≤ 200 ∧ F = R + T ∧ mvn ≤ 40 ∧ lkn ≤ 40)
/-! the model's part -/
def PerM2 (σ : AS) (N : Nat) (per : Nat → Nat → Int32) : Prop := gI σ 13 1 0 = nI N ∧ (∀ p, p < N → (∀ f, 1 ≤ f → f ≤ 5 → gA σ 26 (f - 1) p = per p f) ∧ gA σ 21 0 p = per p 6 ∧ gA σ 26 5 p = per p 7 ∧ gA σ 26 6 p = per p 8) ∧ ∀ p, N ≤ p → p < 40 → gA σ 21 0 p = 0 ∧ gA σ 26 5 p = 0 ∧ gA σ 26 6 p = 0
def CalM2 (σ : AS) (N : Nat) (asg : Nat → Option Nat) : Prop := ∀ p, p < N → gA σ 26 7 p = rI (asg p)
def FacM (σ : AS) (F T : Nat) (fP fS : Nat → Int32) : Prop := gI σ 13 12 0 = nI F ∧ gI σ 13 13 0 = nI T ∧ ∀ i, i < F → gA σ 26 8 i = fP i ∧ gA σ 26 9 i = fS i
def AskM (σ : AS) (K an : Nat) (ab : Nat → Int32) : Prop := gI σ 13 29 0 = nI K ∧ (0 < K → gI σ 13 31 0 = nI an ∧ ∀ i, i < an → gA σ 22 1 i = sgb (ab i)) ∧ OldA σ an ab K
def AgM2 (σ : AS) (A : Nat) (tc : Nat → Nat) (tf : Nat → Nat → Nat → Int32) : Prop := gI σ 13 49 0 = nI A ∧ ∀ g, g < A → gA σ 26 23 g = nI (tc g) ∧ ∀ j, j < tc g → gA σ 26 24 (8 * g + j) = tf g j 0 ∧ gA σ 26 25 (8 * g + j) = tf g j 1 ∧ gA σ 26 26 (8 * g + j) = tf g j 2 ∧ gA σ 21 3 (8 * g + j) = tf g j 3
def rgI : Option Nat → Int32
  | some g => nI g
  | none => -1
def RecM2 (σ : AS) (D R : Nat) (w : Nat → Nat) (rf : Nat → Nat → Int32) (rg : Nat → Option Nat) (Rs : Nat → Nat) : Prop := gI σ 13 55 0 = nI R ∧ gI σ 13 2 0 = nI D ∧ ∀ d, d < D → ∀ p, p < 40 → (∃ r, Rs d ≤ r ∧ r < Rs (d + 1) ∧ w r = p ∧ RowM σ (40 * d + p) (rf r 3) (rf r 4) (rf r 5) (rf r 6) (rf r 7) (rgI (rg r))) ∨ ((∀ r, Rs d ≤ r → r < Rs (d + 1) → w r ≠ p) ∧ gA σ 26 27 (40 * d + p) = -1)
def MovM (σ : AS) (mvn lkn : Nat) (mv lk : Nat → Int32) : Prop := (gI σ 13 48 0 = nI mvn ∧ ∀ i, i < mvn → gA σ 26 22 i = mv i) ∧ gI σ 13 67 0 = nI lkn ∧ ∀ i, i < lkn → gA σ 26 36 i = lk i
def MI (σ : AS) (D N K n an A R F T mvn lkn : Nat) (asg : Nat → Option Nat) (b ab fP fS mv lk : Nat → Int32) (per : Nat → Nat → Int32) (tc : Nat → Nat) (tf : Nat → Nat → Nat → Int32) (w : Nat → Nat) (rf : Nat → Nat → Int32) (rg : Nat → Option Nat) (Rs : Nat → Nat) (pl : Int32) : Prop :=
  PerM2 σ N per ∧ CalM2 σ N asg ∧ FacM σ F T fP fS ∧ TapM σ n b ∧ AskM σ K an ab ∧ AgM2 σ A tc tf ∧ RecM2 σ D R w rf rg Rs ∧ MovM σ mvn lkn mv lk ∧ gI σ 13 26 0 = pl
/-- the whole coupling, D days being done -/
def Inv (D : Nat) (σ : AS) : Prop := ∃ (N K q a0 n an A R F T mvn lkn : Nat) (asg : Nat → Option Nat) (b ab fP fS mv lk : Nat → Int32) (per : Nat → Nat → Int32) (ax tq tc : Nat → Nat) (tt : Nat → Nat → Nat) (tf : Nat → Nat → Nat → Int32) (w : Nat → Nat) (rf : Nat → Nat → Int32) (rg : Nat → Option Nat) (Rs : Nat → Nat) (pl : Int32), CI σ D N K q a0 n an A R F T mvn lkn asg b ab fP fS mv lk per ax tq tc tt tf w rf rg pl ∧ OK D N K n an A R F T mvn lkn b ab fP fS per tc tf w rf rg Rs ∧ MI σ D N K n an A R F T mvn lkn asg b ab fP fS mv lk per tc tf w rf rg Rs pl
/-! the class's part under the model's calls -/
def MK : Nat → Prop := fun c => c = 13 ∨ c = 21 ∨ c = 22 ∨ c = 26
theorem StepsR.same {σ' : AS} {x : Nat} {s : List Int32} (h : StepsR σ x s) (k2 : ∀ f, gR σ' 2 f x = gR σ 2 f x) (k : eqK σ σ' 25) : StepsR σ' x s := by
  obtain ⟨a, h1, h2, h3, h4, h5, h6⟩ := h
  exact ⟨a, (k2 5).trans h1, by rw [k.1]; exact h2, (k.2.2.2.1 a).trans h3, h4, fun j hj => (k.2.2.2.2.1 a j).trans (h5 j hj), h6⟩
theorem Seat.same {N K a0 : Nat} {asg : Nat → Option Nat} {σ' : AS} (h : Seat N K a0 σ asg) (k6 : ∀ p, p < N → gR σ' 6 11 p = gR σ 6 11 p) (k2 : ∀ x, gI σ' 2 6 x = gI σ 2 6 x) : Seat N K a0 σ' asg := ⟨fun p hp => (k6 p hp).trans (h.1 p hp), h.2.1, fun a ha => (k2 _).trans (h.2.2 a ha)⟩
theorem AskC.same {K a0 an : Nat} {ab : Nat → Int32} {σ' : AS} (h : AskC σ K a0 an ab) (k2 : ∀ f x, f = 1 ∨ f = 2 ∨ f = 3 ∨ f = 4 ∨ f = 7 → gI σ' 2 f x = gI σ 2 f x) (r2 : ∀ f x, gR σ' 2 f x = gR σ 2 f x) (k25 : eqK σ σ' 25) : AskC σ' K a0 an ab := fun a ha => by
  obtain ⟨e1, e2, e3, e4, e5, e6⟩ := h a ha
  exact ⟨(k2 1 _ (by decide)).trans e1, (k2 2 _ (by decide)).trans e2, (k2 3 _ (by decide)).trans e3, (k2 4 _ (by decide)).trans e4, (k2 7 _ (by decide)).trans e5, e6.same (fun f => r2 f _) k25⟩
theorem AgC.same {A : Nat} {ax tq tc : Nat → Nat} {tt : Nat → Nat → Nat} {tf : Nat → Nat → Nat → Int32} {σ' : AS} (h : AgC σ A ax tq tc tt tf) (k : sameK (fun c => c = 0 ∨ c = 23) σ σ') (k1 : eqK σ σ' 1) (k9 : eqK σ σ' 9) : AgC σ' A ax tq tc tt tf := ⟨h.1.same k, fun g hg => by
  obtain ⟨e1, e2, e3, e4, e5, e6⟩ := h.2 g hg
  refine ⟨by rw [k1.1]; exact e1, (k1.2.1 0 _).trans e2, (k1.2.2.1 1 _).trans e3, by rw [(k 0 (Or.inl rfl)).1]; exact e4, e5.same k, fun j hj => ?_⟩
  exact ⟨by rw [k9.1]; exact (e6 j hj).1, fun f hf => (k9.2.1 f _).trans ((e6 j hj).2 f hf)⟩⟩
theorem RecC.same {R : Nat} {w : Nat → Nat} {rf : Nat → Nat → Int32} {rg : Nat → Option Nat} {ax : Nat → Nat} {σ' : AS} (h : RecC σ R w rf rg ax) (k : sameK (fun c => c = 0 ∨ c = 23) σ σ') (k11 : eqK σ σ' 11) : RecC σ' R w rf rg ax := ⟨h.1.same k, k11.1.trans h.2.1, fun r hr => by
  obtain ⟨e1, e2, e3⟩ := h.2.2 r hr
  exact ⟨(k11.2.2.1 0 r).trans e1, fun f hf => (k11.2.1 f r).trans (e2 f hf), (k11.2.2.1 8 r).trans e3⟩⟩
theorem RowC.same {n F mvn lkn : Nat} {b fP fS mv lk : Nat → Int32} {σ' : AS} (h : RowC σ n F mvn lkn b fP fS mv lk) (k : sameK (fun c => c = 8 ∨ c = 20) σ σ') : RowC σ' n F mvn lkn b fP fS mv lk := ⟨h.1.same k (Or.inl rfl) (Or.inr rfl), h.2.1.same k (Or.inl rfl) (Or.inr rfl), h.2.2.1.same k (Or.inl rfl) (Or.inr rfl), h.2.2.2.1.same k (Or.inl rfl) (Or.inr rfl), h.2.2.2.2.same k (Or.inl rfl) (Or.inr rfl)⟩
theorem LisC.same {q : Nat} {σ' : AS} (h : LisC σ q) (k : sameK (fun c => c = 0 ∨ c = 23) σ σ') : LisC σ' q := ⟨h.1.same k, by rw [(k 0 (Or.inl rfl)).1]; exact h.2.1, by rw [(k 0 (Or.inl rfl)).1]; exact h.2.2.1, h.2.2.2⟩
theorem PicS.same {N q K a0 : Nat} {σ' : AS} (h : PicS N q K a0 σ) (hS : St σ') (k : sameK (fun c => c = 0 ∨ c = 23) σ σ') (c6 : cnt σ' 6 = cnt σ 6) (g6 : ∀ p, gI σ' 6 0 p = gI σ 6 0 p) (r7 : gR σ' 7 0 0 = gR σ 7 0 0) (c2 : cnt σ' 2 = cnt σ 2) (g2 : ∀ x, gI σ' 2 0 x = gI σ 2 0 x) : PicS N q K a0 σ' := h.of hS (h.2.1.same k) c6 g6 r7 (h.2.2.2.2.2.2.1.same k) c2 g2
variable {D N K q a0 n an A R F T mvn lkn : Nat} {asg : Nat → Option Nat} {b ab fP fS mv lk : Nat → Int32} {per : Nat → Nat → Int32} {ax tq tc : Nat → Nat} {tt : Nat → Nat → Nat} {tf : Nat → Nat → Nat → Int32} {w : Nat → Nat} {rf : Nat → Nat → Int32} {rg : Nat → Option Nat} {Rs : Nat → Nat} {pl : Int32}
theorem CI.keep {σ' : AS} (h : CI σ D N K q a0 n an A R F T mvn lkn asg b ab fP fS mv lk per ax tq tc tt tf w rf rg pl) (k : sameK (fun c => c ≠ 13 ∧ c ≠ 21 ∧ c ≠ 22 ∧ c ≠ 26) σ σ') (hS : St σ') : CI σ' D N K q a0 n an A R F T mvn lkn asg b ab fP fS mv lk per ax tq tc tt tf w rf rg pl := by
  obtain ⟨c1, c2, c3, ⟨c4, c5, c6⟩, c7, c8, c9, c10, c11⟩ := h
  have k0 : sameK (fun c => c = 0 ∨ c = 23) σ σ' := k.sub (fun c hc => by rcases hc with rfl | rfl <;> decide)
  have e6 := k 6 (by decide)
  have e2 := k 2 (by decide)
  exact ⟨c1.same hS k0 e6.1 (fun p => e6.2.1 0 p) ((k 7 (by decide)).2.2.1 0 0) e2.1 (fun x => e2.2.1 0 x), c2.same (fun p _ => e6.2.2.1 11 p) (fun x => e2.2.1 6 x), c3.same k0, ⟨((k 12 (by decide)).2.1 10 0).trans c4, ((k 5 (by decide)).2.1 2 0).trans c5, ((k 10 (by decide)).2.1 1 0).trans c6⟩, c7.same (k.sub (fun c hc => by rcases hc with rfl | rfl <;> decide)), fun p hp f hf => (e6.2.1 f p).trans (c8 p hp f hf), c9.same (fun f x _ => e2.2.1 f x) (fun f x => e2.2.2.1 f x) (k 25 (by decide)), c10.same k0 (k 1 (by decide)) (k 9 (by decide)), c11.same k0 (k 11 (by decide))⟩
/-! the model's part under the class's calls, and under such of its own as change other fields -/
/-- of the model's, fields f with P f and arrays with Q are the same -/
def EqM (P : Nat → Prop) (Q : Nat → Nat → Prop) (σ σ' : AS) : Prop := (∀ f, P f → gI σ' 13 f 0 = gI σ 13 f 0) ∧ ∀ c a j, Q c a → gA σ' c a j = gA σ c a j
theorem EqM.all {P : Nat → Prop} {Q : Nat → Nat → Prop} {σ' : AS} (k : sameK MK σ σ') (hQ : ∀ c a, Q c a → MK c) : EqM P Q σ σ' := ⟨fun f _ => (k 13 (Or.inl rfl)).2.1 f 0, fun c a j h => (k c (hQ c a h)).2.2.2.2.1 a j⟩
theorem EqM.mz {R : Prop} {P P' : Nat → Prop} {Q Q' : Nat → Nat → Prop} {σ' : AS} (Z : MZ R P Q σ σ') (hP : ∀ f, P' f → ¬ P f) (hQ : ∀ c a, Q' c a → c ≠ 13 ∧ ¬ Q c a) : EqM P' Q' σ σ' := ⟨fun f h => Z.2.2.2.2.1 f 0 (hP f h), fun c a j h => Z.2.2.2.2.2 c a j (hQ c a h).1 (hQ c a h).2⟩
theorem EqM.sub {P P' : Nat → Prop} {Q Q' : Nat → Nat → Prop} {σ' : AS} (h : EqM P Q σ σ') (hP : ∀ f, P' f → P f) (hQ : ∀ c a, Q' c a → Q c a) : EqM P' Q' σ σ' := ⟨fun f x => h.1 f (hP f x), fun c a j x => h.2 c a j (hQ c a x)⟩
def pPer : Nat → Prop := fun f => f = 1
def qPer : Nat → Nat → Prop := fun c a => (c = 26 ∧ (a ≤ 6)) ∨ (c = 21 ∧ a = 0)
theorem PerM2.keep {σ' : AS} (h : PerM2 σ N per) (e : EqM pPer qPer σ σ') : PerM2 σ' N per := by
  have a : ∀ a j, a ≤ 6 → gA σ' 26 a j = gA σ 26 a j := fun a j ha => e.2 26 a j (Or.inl ⟨rfl, ha⟩)
  have z : ∀ j, gA σ' 21 0 j = gA σ 21 0 j := fun j => e.2 21 0 j (Or.inr ⟨rfl, rfl⟩)
  refine ⟨(e.1 1 rfl).trans h.1, fun p hp => ?_, fun p h1 h2 => ?_⟩
  · obtain ⟨e1, e2, e3, e4⟩ := h.2.1 p hp
    exact ⟨fun f f1 f2 => (a (f - 1) p (by omega)).trans (e1 f f1 f2), (z p).trans e2, (a 5 p (by decide)).trans e3, (a 6 p (by decide)).trans e4⟩
  · obtain ⟨e2, e3, e4⟩ := h.2.2 p h1 h2
    exact ⟨(z p).trans e2, (a 5 p (by decide)).trans e3, (a 6 p (by decide)).trans e4⟩
def qCal : Nat → Nat → Prop := fun c a => c = 26 ∧ a = 7
def pNo : Nat → Prop := fun _ => False
theorem CalM2.keep {σ' : AS} (h : CalM2 σ N asg) (e : EqM pNo qCal σ σ') : CalM2 σ' N asg := fun p hp => (e.2 26 7 p ⟨rfl, rfl⟩).trans (h p hp)
def pFac : Nat → Prop := fun f => f = 12 ∨ f = 13
def qFac : Nat → Nat → Prop := fun c a => c = 26 ∧ (a = 8 ∨ a = 9)
theorem FacM.keep {σ' : AS} (h : FacM σ F T fP fS) (e : EqM pFac qFac σ σ') : FacM σ' F T fP fS := ⟨(e.1 12 (Or.inl rfl)).trans h.1, (e.1 13 (Or.inr rfl)).trans h.2.1, fun i hi => ⟨(e.2 26 8 i ⟨rfl, Or.inl rfl⟩).trans (h.2.2 i hi).1, (e.2 26 9 i ⟨rfl, Or.inr rfl⟩).trans (h.2.2 i hi).2⟩⟩
def pTap : Nat → Prop := fun f => f = 17
def qTap : Nat → Nat → Prop := fun c a => c = 22 ∧ a = 0
theorem TapM.keep {σ' : AS} (h : TapM σ n b) (e : EqM pTap qTap σ σ') : TapM σ' n b := ⟨(e.1 17 rfl).trans h.1, h.2.1, fun i hi => (e.2 22 0 i ⟨rfl, rfl⟩).trans (h.2.2 i hi)⟩
def pAsk : Nat → Prop := fun f => f = 29 ∨ f = 31
def qAsk : Nat → Nat → Prop := fun c a => (c = 26 ∧ 10 ≤ a ∧ a ≤ 14) ∨ (c = 22 ∧ a = 1)
theorem AskM.keep {σ' : AS} (h : AskM σ K an ab) (e : EqM pAsk qAsk σ σ') : AskM σ' K an ab := by
  have a : ∀ a j, 10 ≤ a → a ≤ 14 → gA σ' 26 a j = gA σ 26 a j := fun a j h1 h2 => e.2 26 a j (Or.inl ⟨rfl, h1, h2⟩)
  refine ⟨(e.1 29 (Or.inl rfl)).trans h.1, fun hK => ⟨(e.1 31 (Or.inr rfl)).trans (h.2.1 hK).1, fun i hi => (e.2 22 1 i (Or.inr ⟨rfl, rfl⟩)).trans ((h.2.1 hK).2 i hi)⟩, fun x hx => ?_⟩
  obtain ⟨e1, e2, e3, e4, e5⟩ := h.2.2 x hx
  exact ⟨(a 10 x (by decide) (by decide)).trans e1, (a 11 x (by decide) (by decide)).trans e2, (a 12 x (by decide) (by decide)).trans e3, (a 13 x (by decide) (by decide)).trans e4, (a 14 x (by decide) (by decide)).trans e5⟩
def pAg : Nat → Prop := fun f => f = 49
def qAg : Nat → Nat → Prop := fun c a => (c = 26 ∧ 23 ≤ a ∧ a ≤ 26) ∨ (c = 21 ∧ a = 3)
theorem AgM2.keep {σ' : AS} (h : AgM2 σ A tc tf) (e : EqM pAg qAg σ σ') : AgM2 σ' A tc tf := by
  have a : ∀ a j, 23 ≤ a → a ≤ 26 → gA σ' 26 a j = gA σ 26 a j := fun a j h1 h2 => e.2 26 a j (Or.inl ⟨rfl, h1, h2⟩)
  refine ⟨(e.1 49 rfl).trans h.1, fun g hg => ⟨(a 23 g (by decide) (by decide)).trans (h.2 g hg).1, fun j hj => ?_⟩⟩
  obtain ⟨e1, e2, e3, e4⟩ := (h.2 g hg).2 j hj
  exact ⟨(a 24 _ (by decide) (by decide)).trans e1, (a 25 _ (by decide) (by decide)).trans e2, (a 26 _ (by decide) (by decide)).trans e3, (e.2 21 3 _ (Or.inr ⟨rfl, rfl⟩)).trans e4⟩
def pRec : Nat → Prop := fun f => f = 55 ∨ f = 2
def qRec : Nat → Nat → Prop := fun c a => c = 26 ∧ 27 ≤ a ∧ a ≤ 32
theorem RowM.keep {σ' : AS} {k : Nat} {x1 x2 x3 x4 x5 x6 : Int32} (h : RowM σ k x1 x2 x3 x4 x5 x6) (e : ∀ a, 27 ≤ a → a ≤ 32 → gA σ' 26 a k = gA σ 26 a k) : RowM σ' k x1 x2 x3 x4 x5 x6 := ⟨(e 27 (by decide) (by decide)).trans h.1, (e 28 (by decide) (by decide)).trans h.2.1, (e 29 (by decide) (by decide)).trans h.2.2.1, (e 30 (by decide) (by decide)).trans h.2.2.2.1, (e 31 (by decide) (by decide)).trans h.2.2.2.2.1, (e 32 (by decide) (by decide)).trans h.2.2.2.2.2⟩
theorem RecM2.keep {σ' : AS} (h : RecM2 σ D R w rf rg Rs) (e : EqM pRec qRec σ σ') : RecM2 σ' D R w rf rg Rs := by
  refine ⟨(e.1 55 (Or.inl rfl)).trans h.1, (e.1 2 (Or.inr rfl)).trans h.2.1, fun d hd p hp => ?_⟩
  rcases h.2.2 d hd p hp with ⟨r, r1, r2, r3, r4⟩ | ⟨r1, r2⟩
  · exact Or.inl ⟨r, r1, r2, r3, r4.keep (fun a h1 h2 => e.2 26 a _ ⟨rfl, h1, h2⟩)⟩
  · exact Or.inr ⟨r1, (e.2 26 27 _ ⟨rfl, by decide, by decide⟩).trans r2⟩
def pMov : Nat → Prop := fun f => f = 48 ∨ f = 67
def qMov : Nat → Nat → Prop := fun c a => c = 26 ∧ (a = 22 ∨ a = 36)
theorem MovM.keep {σ' : AS} (h : MovM σ mvn lkn mv lk) (e : EqM pMov qMov σ σ') : MovM σ' mvn lkn mv lk := ⟨⟨(e.1 48 (Or.inl rfl)).trans h.1.1, fun i hi => (e.2 26 22 i ⟨rfl, Or.inl rfl⟩).trans (h.1.2 i hi)⟩, (e.1 67 (Or.inr rfl)).trans h.2.1, fun i hi => (e.2 26 36 i ⟨rfl, Or.inr rfl⟩).trans (h.2.2 i hi)⟩
theorem MI.keepC {σ' : AS} (h : MI σ D N K n an A R F T mvn lkn asg b ab fP fS mv lk per tc tf w rf rg Rs pl) (k : sameK MK σ σ') : MI σ' D N K n an A R F T mvn lkn asg b ab fP fS mv lk per tc tf w rf rg Rs pl := by
  obtain ⟨m1, m2, m3, m4, m5, m6, m7, m8, m9⟩ := h
  exact ⟨m1.keep (EqM.all k (fun c a x => by rcases x with x | x <;> simp [MK, x.1])), m2.keep (EqM.all k (fun c a x => by simp [MK, x.1])), m3.keep (EqM.all k (fun c a x => by simp [MK, x.1])), m4.keep (EqM.all k (fun c a x => by simp [MK, x.1])), m5.keep (EqM.all k (fun c a x => by rcases x with x | x <;> simp [MK, x.1])), m6.keep (EqM.all k (fun c a x => by rcases x with x | x <;> simp [MK, x.1])), m7.keep (EqM.all k (fun c a x => by simp [MK, x.1])), m8.keep (EqM.all k (fun c a x => by simp [MK, x.1])), ((k 13 (Or.inl rfl)).2.1 26 0).trans m9⟩
/-- fields and arrays that the coupling speaks of -/
def pAll : Nat → Prop := fun f => f = 1 ∨ f = 2 ∨ f = 12 ∨ f = 13 ∨ f = 17 ∨ f = 26 ∨ f = 29 ∨ f = 31 ∨ f = 48 ∨ f = 49 ∨ f = 55 ∨ f = 67
def qAll : Nat → Nat → Prop := fun c a => (c = 26 ∧ (a ≤ 14 ∨ (22 ≤ a ∧ a ≤ 32) ∨ a = 36)) ∨ (c = 21 ∧ (a = 0 ∨ a = 3)) ∨ (c = 22 ∧ a ≤ 1)
theorem MI.keepM {σ' : AS} (h : MI σ D N K n an A R F T mvn lkn asg b ab fP fS mv lk per tc tf w rf rg Rs pl) (e : EqM pAll qAll σ σ') : MI σ' D N K n an A R F T mvn lkn asg b ab fP fS mv lk per tc tf w rf rg Rs pl := by
  obtain ⟨m1, m2, m3, m4, m5, m6, m7, m8, m9⟩ := h
  exact ⟨m1.keep (e.sub (fun f x => by unfold pPer at x; unfold pAll; omega) (fun c a x => by unfold qPer at x; unfold qAll; omega)), m2.keep (e.sub (fun f x => x.elim) (fun c a x => by unfold qCal at x; unfold qAll; omega)), m3.keep (e.sub (fun f x => by unfold pFac at x; unfold pAll; omega) (fun c a x => by unfold qFac at x; unfold qAll; omega)), m4.keep (e.sub (fun f x => by unfold pTap at x; unfold pAll; omega) (fun c a x => by unfold qTap at x; unfold qAll; omega)), m5.keep (e.sub (fun f x => by unfold pAsk at x; unfold pAll; omega) (fun c a x => by unfold qAsk at x; unfold qAll; omega)), m6.keep (e.sub (fun f x => by unfold pAg at x; unfold pAll; omega) (fun c a x => by unfold qAg at x; unfold qAll; omega)), m7.keep (e.sub (fun f x => by unfold pRec at x; unfold pAll; omega) (fun c a x => by unfold qRec at x; unfold qAll; omega)), m8.keep (e.sub (fun f x => by unfold pMov at x; unfold pAll; omega) (fun c a x => by unfold qMov at x; unfold qAll; omega)), (e.1 26 (by unfold pAll; omega)).trans m9⟩
theorem EqM.t0 : EqM pAll qAll σ (T0 σ) := ⟨fun f x => T0_f (by unfold pAll at x; omega), fun c a j _ => rfl⟩
end INV
