/-! The class's constructor. -/
section CINIT
variable {G : GG} {l : Launch} {d : Nat} {post : Option AVal → AS → Prop} {σ : AS}
def iC : List (Nat × Nat) := [(0, 0), (1, 0), (2, 0), (3, 0), (4, 0), (5, 0), (6, 0), (7, 0), (8, 0), (9, 0), (10, 0), (11, 0), (12, 0), (13, 0), (20, 0), (21, 0), (22, 0), (24, 0), (26, 0)]
def cLR : List (Nat × Nat × Nat × Nat × Nat) := [(12, 9, 0, 8, 5), (8, 0, 5, 20, 6), (12, 8, 0, 0, 5), (0, 1, 5, 23, 0), (12, 7, 0, 4, 0), (4, 2, 0, 20, 5), (4, 1, 0, 0, 4), (0, 1, 4, 23, 0), (4, 0, 0, 0, 3), (0, 1, 3, 23, 0), (12, 6, 0, 7, 0), (7, 2, 0, 0, 0), (7, 1, 0, 8, 4), (8, 0, 4, 20, 4), (7, 0, 0, 0, 2), (0, 1, 2, 23, 0), (12, 5, 0, 5, 0), (5, 1, 0, 8, 3), (8, 0, 3, 20, 3), (5, 0, 0, 8, 2), (8, 0, 2, 20, 2), (12, 4, 0, 0, 1), (0, 1, 1, 23, 0), (12, 3, 0, 3, 0), (3, 0, 0, 10, 0), (3, 1, 0, 8, 1), (8, 0, 1, 20, 1), (12, 2, 0, 10, 0), (10, 2, 0, 8, 0), (12, 1, 0, 8, 0), (8, 0, 0, 20, 0), (12, 0, 0, 0, 0), (0, 1, 0, 23, 0)]
def cLN : List (Nat × Nat × Nat) := [(20, 6, 40), (8, 5, 0), (0, 5, 0), (20, 5, 5), (0, 4, 0), (0, 3, 0), (4, 0, 0), (20, 4, 6), (8, 4, 0), (0, 2, 0), (7, 0, 0), (20, 3, 2600), (8, 3, 0), (20, 2, 2600), (8, 2, 0), (5, 0, 0), (0, 1, 0), (20, 1, 1000), (8, 1, 0), (3, 0, 0), (10, 0, 0), (20, 0, 1000), (8, 0, 0), (0, 0, 0), (12, 0, 0), (23, 0, 0)]
def dLR : List (Nat × Nat × Nat × Nat × Nat) := [(12, 9, 0, 8, 5), (8, 0, 5, 20, 6), (12, 8, 0, 0, 5), (0, 1, 5, 23, 0), (12, 7, 0, 4, 0), (4, 2, 0, 20, 5), (4, 1, 0, 0, 4), (0, 1, 4, 23, 0), (4, 0, 0, 0, 3), (0, 1, 3, 23, 0), (12, 5, 0, 5, 0), (5, 1, 0, 8, 4), (8, 0, 4, 20, 4), (5, 0, 0, 8, 3), (8, 0, 3, 20, 3), (12, 4, 0, 0, 2), (0, 1, 2, 23, 0), (12, 1, 0, 8, 1), (12, 2, 0, 10, 0), (12, 3, 0, 3, 0), (3, 1, 0, 8, 2), (8, 0, 2, 20, 2), (3, 0, 0, 10, 0), (10, 2, 0, 8, 1), (8, 0, 1, 20, 1), (12, 0, 0, 0, 0), (12, 6, 0, 7, 0), (7, 1, 0, 8, 0), (8, 0, 0, 20, 0), (7, 0, 0, 0, 1), (0, 1, 1, 23, 0), (7, 2, 0, 0, 0), (0, 1, 0, 23, 0)]
def dLN : List (Nat × Nat × Nat) := [(20, 6, 40), (8, 5, 0), (0, 5, 0), (20, 5, 5), (0, 4, 0), (0, 3, 0), (4, 0, 0), (20, 4, 2600), (8, 4, 0), (20, 3, 2600), (8, 3, 0), (5, 0, 0), (0, 2, 0), (20, 2, 1000), (8, 2, 0), (20, 1, 1000), (8, 1, 0), (10, 0, 0), (3, 0, 0), (20, 0, 6), (8, 0, 0), (0, 1, 0), (0, 0, 0), (7, 0, 0), (12, 0, 0), (23, 0, 0)]
def cC : List (Nat × Nat) := [(0, 6), (1, 0), (2, 0), (3, 1), (4, 1), (5, 1), (6, 0), (7, 1), (8, 6), (9, 0), (10, 1), (11, 0), (12, 1), (13, 0), (20, 7), (21, 0), (22, 0), (24, 0), (26, 0)]
theorem Gr.to {LR LR' : List (Nat × Nat × Nat × Nat × Nat)} {LN LN' : List (Nat × Nat × Nat)} {C C' : List (Nat × Nat)} {k10 k13 : Int32} (h : Gr σ LR LN C k10 k13) (h1 : ∀ t ∈ LR', t ∈ LR) (h2 : ∀ t ∈ LN', t ∈ LN) (h3 : ∀ t ∈ C', t ∈ C) : Gr σ LR' LN' C' k10 k13 := ⟨fun t ht => h.1 t (h1 t ht), fun t ht => h.2.1 t (h2 t ht), fun p hp => h.2.2.1 p (h3 p hp), h.2.2.2⟩
set_option maxRecDepth 4000 in
set_option maxHeartbeats 4000000 in
theorem c_cinit0 (hg : Gr σ [] [(12, 0, 0), (23, 0, 0)] (upC iC 12 0) 0 0) (h : ∀ s, XO σ s → Gr s dLR dLN cC (-1) 0 → post none s) : AMet G l M_X11_init (d + 36) 60 9000 [xR (some (12, 0))] σ post := by
  have gσ := hg
  have xσ : XO σ σ := XO.rf
  refine AMet.of rfl (Nat.le_of_ble_eq_true rfl) (vc_X11_init (d := d + 35) ?_)
  refine ⟨_, _, rfl, rfl, 6, 100, _, _, rfl, rfl, ?_⟩
  rw [show cnt σ 7 = 0 from gσ.c (by decide +kernel)]
  generalize es1 : nO σ 7 = s1
  have gs1 := show Gr (nO σ 7) _ _ _ _ _ from gσ.nA (n := 0) (c := 7) (m := 0) (by decide +kernel) (by intro e; first | exact absurd e (by decide) | rfl) (by intro e; first | exact absurd e (by decide) | rfl)
  have xs1 := show XO σ (nO σ 7) from xσ.nA (by decide) (by decide)
  rw [es1] at gs1 xs1
  clear es1
  refine AMet.of rfl (Nat.le_of_ble_eq_true rfl) (vc_X6_init (d := d + 34) ?_)
  refine ⟨_, _, rfl, rfl, ?_⟩
  rw [show cnt s1 0 = 0 from gs1.c (by decide +kernel)]
  generalize es2 : nO s1 0 = s2
  have gs2 := show Gr (nO s1 0) _ _ _ _ _ from gs1.nA (n := 0) (c := 0) (m := 0) (by decide +kernel) (by intro e; first | exact absurd e (by decide) | rfl) (by intro e; first | exact absurd e (by decide) | rfl)
  have xs2 := show XO σ (nO s1 0) from xs1.nA (by decide) (by decide)
  rw [es2] at gs2 xs2
  clear es2
  refine a_list (m := 1) gs2 (by decide +kernel) (by decide) (by decide +kernel) (fun s3 ys3 gs3 => ?_)
  have xs3 := xs2.tr ys3
  dsimp only [retV]
  generalize es4 : sR s3 7 2 0 (some (0, 0)) = s4
  have gs4 := gs3.sR (c := 7) (f := 2) (i := 0) (v := (0, 0)) (m := 1) (by decide +kernel) (by decide) (by decide +kernel)
  have xs4 := xs3.sR (c := 7) (f := 2) (i := 0) (v := some (0, 0)) (by decide)
  rw [es4] at gs4 xs4
  clear es4
  refine ⟨_, _, rfl, rfl, ?_⟩
  rw [show cnt s4 0 = 1 from gs4.c (by decide +kernel)]
  generalize es5 : nO s4 0 = s5
  have gs5 := show Gr (nO s4 0) _ _ _ _ _ from gs4.nA (n := 0) (c := 0) (m := 1) (by decide +kernel) (by intro e; first | exact absurd e (by decide) | rfl) (by intro e; first | exact absurd e (by decide) | rfl)
  have xs5 := show XO σ (nO s4 0) from xs4.nA (by decide) (by decide)
  rw [es5] at gs5 xs5
  clear es5
  refine a_list (m := 2) gs5 (by decide +kernel) (by decide) (by decide +kernel) (fun s6 ys6 gs6 => ?_)
  have xs6 := xs5.tr ys6
  dsimp only [retV]
  generalize es7 : sR s6 7 0 0 (some (0, 1)) = s7
  have gs7 := gs6.sR (c := 7) (f := 0) (i := 0) (v := (0, 1)) (m := 1) (by decide +kernel) (by decide) (by decide +kernel)
  have xs7 := xs6.sR (c := 7) (f := 0) (i := 0) (v := some (0, 1)) (by decide)
  rw [es7] at gs7 xs7
  clear es7
  refine ⟨_, _, rfl, rfl, 1, 6, _, _, rfl, rfl, ?_⟩
  rw [show cnt s7 8 = 0 from gs7.c (by decide +kernel)]
  generalize es8 : nO s7 8 = s8
  have gs8 := show Gr (nO s7 8) _ _ _ _ _ from gs7.nA (n := 0) (c := 8) (m := 0) (by decide +kernel) (by intro e; first | exact absurd e (by decide) | rfl) (by intro e; first | exact absurd e (by decide) | rfl)
  have xs8 := show XO σ (nO s7 8) from xs7.nA (by decide) (by decide)
  rw [es8] at gs8 xs8
  clear es8
  refine a_row (n := 6) (m := 1) (a := 0) gs8 (by decide) (by decide +kernel) (by decide) (by decide +kernel) (by decide +kernel) (by decide +kernel) (fun s9 ys9 gs9 => ?_)
  have xs9 := xs8.tr ys9
  dsimp only [retV]
  generalize es10 : sR s9 7 1 0 (some (8, 0)) = s10
  have gs10 := gs9.sR (c := 7) (f := 1) (i := 0) (v := (8, 0)) (m := 1) (by decide +kernel) (by decide) (by decide +kernel)
  have xs10 := xs9.sR (c := 7) (f := 1) (i := 0) (v := some (8, 0)) (by decide)
  rw [es10] at gs10 xs10
  clear es10
  try dsimp only [retV]
  rw [show gR s10 7 2 0 = some (0, 0) from (gs10.1 (7, 2, 0, 0, 0) (by decide +kernel)).1]
  generalize es11 : sR s10 12 6 0 (some (7, 0)) = s11
  have gs11 := gs10.sR (c := 12) (f := 6) (i := 0) (v := (7, 0)) (m := 1) (by decide +kernel) (by decide) (by decide +kernel)
  have xs11 := xs10.sR (c := 12) (f := 6) (i := 0) (v := some (7, 0)) (by decide)
  rw [es11] at gs11 xs11
  clear es11
  generalize es12 : sR s11 12 0 0 (some (0, 0)) = s12
  have gs12 := gs11.sR (c := 12) (f := 0) (i := 0) (v := (0, 0)) (m := 1) (by decide +kernel) (by decide) (by decide +kernel)
  have xs12 := xs11.sR (c := 12) (f := 0) (i := 0) (v := some (0, 0)) (by decide)
  rw [es12] at gs12 xs12
  clear es12
  refine ⟨_, _, rfl, rfl, 6, 2100, _, _, rfl, rfl, ?_⟩
  rw [show cnt s12 3 = 0 from gs12.c (by decide +kernel)]
  generalize es13 : nO s12 3 = s13
  have gs13 := show Gr (nO s12 3) _ _ _ _ _ from gs12.nA (n := 0) (c := 3) (m := 0) (by decide +kernel) (by intro e; first | exact absurd e (by decide) | rfl) (by intro e; first | exact absurd e (by decide) | rfl)
  have xs13 := show XO σ (nO s12 3) from xs12.nA (by decide) (by decide)
  rw [es13] at gs13 xs13
  clear es13
  refine AMet.of rfl (Nat.le_of_ble_eq_true rfl) (vc_X2_init (d := d + 34) ?_)
  refine ⟨_, _, rfl, rfl, 3, 1010, _, _, rfl, rfl, ?_⟩
  rw [show cnt s13 10 = 0 from gs13.c (by decide +kernel)]
  generalize es14 : nO s13 10 = s14
  have gs14 := show Gr (nO s13 10) _ _ _ _ _ from gs13.nA (n := 0) (c := 10) (m := 0) (by decide +kernel) (by intro e; first | exact absurd e (by decide) | rfl) (by intro e; first | exact absurd e (by decide) | rfl)
  have xs14 := show XO σ (nO s13 10) from xs13.nA (by decide) (by decide)
  rw [es14] at gs14 xs14
  clear es14
  refine AMet.of rfl (Nat.le_of_ble_eq_true rfl) (vc_X9_init (d := d + 33) ?_)
  refine ⟨_, _, rfl, rfl, 1, 1000, _, _, rfl, rfl, ?_⟩
  rw [show cnt s14 8 = 1 from gs14.c (by decide +kernel)]
  generalize es15 : nO s14 8 = s15
  have gs15 := show Gr (nO s14 8) _ _ _ _ _ from gs14.nA (n := 0) (c := 8) (m := 1) (by decide +kernel) (by intro e; first | exact absurd e (by decide) | rfl) (by intro e; first | exact absurd e (by decide) | rfl)
  have xs15 := show XO σ (nO s14 8) from xs14.nA (by decide) (by decide)
  rw [es15] at gs15 xs15
  clear es15
  refine a_row (n := 1000) (m := 2) (a := 1) gs15 (by decide) (by decide +kernel) (by decide) (by decide +kernel) (by decide +kernel) (by decide +kernel) (fun s16 ys16 gs16 => ?_)
  have xs16 := xs15.tr ys16
  dsimp only [retV]
  generalize es17 : sR s16 10 2 0 (some (8, 1)) = s17
  have gs17 := gs16.sR (c := 10) (f := 2) (i := 0) (v := (8, 1)) (m := 1) (by decide +kernel) (by decide) (by decide +kernel)
  have xs17 := xs16.sR (c := 10) (f := 2) (i := 0) (v := some (8, 1)) (by decide)
  rw [es17] at gs17 xs17
  clear es17
  generalize es18 : sI s17 10 1 0 (-1) = s18
  have gs18 := gs17.s10 (v := -1)
  have xs18 := xs17.tr ⟨eqK_sI (a := 10) (f := 1) (i := 0) (v := -1) (by decide), fun _ => rfl⟩
  rw [es18] at gs18 xs18
  clear es18
  try dsimp only [retV]
  generalize es19 : sR s18 3 0 0 (some (10, 0)) = s19
  have gs19 := gs18.sR (c := 3) (f := 0) (i := 0) (v := (10, 0)) (m := 1) (by decide +kernel) (by decide) (by decide +kernel)
  have xs19 := xs18.sR (c := 3) (f := 0) (i := 0) (v := some (10, 0)) (by decide)
  rw [es19] at gs19 xs19
  clear es19
  refine ⟨_, _, rfl, rfl, 1, 1000, _, _, rfl, rfl, ?_⟩
  rw [show cnt s19 8 = 2 from gs19.c (by decide +kernel)]
  generalize es20 : nO s19 8 = s20
  have gs20 := show Gr (nO s19 8) _ _ _ _ _ from gs19.nA (n := 0) (c := 8) (m := 2) (by decide +kernel) (by intro e; first | exact absurd e (by decide) | rfl) (by intro e; first | exact absurd e (by decide) | rfl)
  have xs20 := show XO σ (nO s19 8) from xs19.nA (by decide) (by decide)
  rw [es20] at gs20 xs20
  clear es20
  refine a_row (n := 1000) (m := 3) (a := 2) gs20 (by decide) (by decide +kernel) (by decide) (by decide +kernel) (by decide +kernel) (by decide +kernel) (fun s21 ys21 gs21 => ?_)
  have xs21 := xs20.tr ys21
  dsimp only [retV]
  generalize es22 : sR s21 3 1 0 (some (8, 2)) = s22
  have gs22 := gs21.sR (c := 3) (f := 1) (i := 0) (v := (8, 2)) (m := 1) (by decide +kernel) (by decide) (by decide +kernel)
  have xs22 := xs21.sR (c := 3) (f := 1) (i := 0) (v := some (8, 2)) (by decide)
  rw [es22] at gs22 xs22
  clear es22
  try dsimp only [retV]
  refine ⟨0, (gs22.1 (3, 0, 0, 10, 0) (by decide +kernel)).1, ?_⟩
  rw [show gR s22 10 2 0 = some (8, 1) from (gs22.1 (10, 2, 0, 8, 1) (by decide +kernel)).1]
  generalize es23 : sR s22 12 3 0 (some (3, 0)) = s23
  have gs23 := gs22.sR (c := 12) (f := 3) (i := 0) (v := (3, 0)) (m := 1) (by decide +kernel) (by decide) (by decide +kernel)
  have xs23 := xs22.sR (c := 12) (f := 3) (i := 0) (v := some (3, 0)) (by decide)
  rw [es23] at gs23 xs23
  clear es23
  generalize es24 : sR s23 12 2 0 (some (10, 0)) = s24
  have gs24 := gs23.sR (c := 12) (f := 2) (i := 0) (v := (10, 0)) (m := 1) (by decide +kernel) (by decide) (by decide +kernel)
  have xs24 := xs23.sR (c := 12) (f := 2) (i := 0) (v := some (10, 0)) (by decide)
  rw [es24] at gs24 xs24
  clear es24
  generalize es25 : sR s24 12 1 0 (some (8, 1)) = s25
  have gs25 := gs24.sR (c := 12) (f := 1) (i := 0) (v := (8, 1)) (m := 1) (by decide +kernel) (by decide) (by decide +kernel)
  have xs25 := xs24.sR (c := 12) (f := 1) (i := 0) (v := some (8, 1)) (by decide)
  rw [es25] at gs25 xs25
  clear es25
  refine ⟨_, _, rfl, rfl, ?_⟩
  rw [show cnt s25 0 = 2 from gs25.c (by decide +kernel)]
  generalize es26 : nO s25 0 = s26
  have gs26 := show Gr (nO s25 0) _ _ _ _ _ from gs25.nA (n := 0) (c := 0) (m := 2) (by decide +kernel) (by intro e; first | exact absurd e (by decide) | rfl) (by intro e; first | exact absurd e (by decide) | rfl)
  have xs26 := show XO σ (nO s25 0) from xs25.nA (by decide) (by decide)
  rw [es26] at gs26 xs26
  clear es26
  refine a_list (m := 3) gs26 (by decide +kernel) (by decide) (by decide +kernel) (fun s27 ys27 gs27 => ?_)
  have xs27 := xs26.tr ys27
  dsimp only [retV]
  generalize es28 : sR s27 12 4 0 (some (0, 2)) = s28
  have gs28 := gs27.sR (c := 12) (f := 4) (i := 0) (v := (0, 2)) (m := 1) (by decide +kernel) (by decide) (by decide +kernel)
  have xs28 := xs27.sR (c := 12) (f := 4) (i := 0) (v := some (0, 2)) (by decide)
  rw [es28] at gs28 xs28
  clear es28
  refine ⟨_, _, rfl, rfl, 6, 5300, _, _, rfl, rfl, ?_⟩
  rw [show cnt s28 5 = 0 from gs28.c (by decide +kernel)]
  generalize es29 : nO s28 5 = s29
  have gs29 := show Gr (nO s28 5) _ _ _ _ _ from gs28.nA (n := 0) (c := 5) (m := 0) (by decide +kernel) (by intro e; first | exact absurd e (by decide) | rfl) (by intro e; first | exact absurd e (by decide) | rfl)
  have xs29 := show XO σ (nO s28 5) from xs28.nA (by decide) (by decide)
  rw [es29] at gs29 xs29
  clear es29
  refine AMet.of rfl (Nat.le_of_ble_eq_true rfl) (vc_X4_init (d := d + 34) ?_)
  refine ⟨_, _, rfl, rfl, 1, 2600, _, _, rfl, rfl, ?_⟩
  rw [show cnt s29 8 = 3 from gs29.c (by decide +kernel)]
  generalize es30 : nO s29 8 = s30
  have gs30 := show Gr (nO s29 8) _ _ _ _ _ from gs29.nA (n := 0) (c := 8) (m := 3) (by decide +kernel) (by intro e; first | exact absurd e (by decide) | rfl) (by intro e; first | exact absurd e (by decide) | rfl)
  have xs30 := show XO σ (nO s29 8) from xs29.nA (by decide) (by decide)
  rw [es30] at gs30 xs30
  clear es30
  refine a_row (n := 2600) (m := 4) (a := 3) gs30 (by decide) (by decide +kernel) (by decide) (by decide +kernel) (by decide +kernel) (by decide +kernel) (fun s31 ys31 gs31 => ?_)
  have xs31 := xs30.tr ys31
  dsimp only [retV]
  generalize es32 : sR s31 5 0 0 (some (8, 3)) = s32
  have gs32 := gs31.sR (c := 5) (f := 0) (i := 0) (v := (8, 3)) (m := 1) (by decide +kernel) (by decide) (by decide +kernel)
  have xs32 := xs31.sR (c := 5) (f := 0) (i := 0) (v := some (8, 3)) (by decide)
  rw [es32] at gs32 xs32
  clear es32
  refine ⟨_, _, rfl, rfl, 1, 2600, _, _, rfl, rfl, ?_⟩
  rw [show cnt s32 8 = 4 from gs32.c (by decide +kernel)]
  generalize es33 : nO s32 8 = s33
  have gs33 := show Gr (nO s32 8) _ _ _ _ _ from gs32.nA (n := 0) (c := 8) (m := 4) (by decide +kernel) (by intro e; first | exact absurd e (by decide) | rfl) (by intro e; first | exact absurd e (by decide) | rfl)
  have xs33 := show XO σ (nO s32 8) from xs32.nA (by decide) (by decide)
  rw [es33] at gs33 xs33
  clear es33
  refine a_row (n := 2600) (m := 5) (a := 4) gs33 (by decide) (by decide +kernel) (by decide) (by decide +kernel) (by decide +kernel) (by decide +kernel) (fun s34 ys34 gs34 => ?_)
  have xs34 := xs33.tr ys34
  dsimp only [retV]
  generalize es35 : sR s34 5 1 0 (some (8, 4)) = s35
  have gs35 := gs34.sR (c := 5) (f := 1) (i := 0) (v := (8, 4)) (m := 1) (by decide +kernel) (by decide) (by decide +kernel)
  have xs35 := xs34.sR (c := 5) (f := 1) (i := 0) (v := some (8, 4)) (by decide)
  rw [es35] at gs35 xs35
  clear es35
  try dsimp only [retV]
  generalize es36 : sR s35 12 5 0 (some (5, 0)) = s36
  have gs36 := gs35.sR (c := 12) (f := 5) (i := 0) (v := (5, 0)) (m := 1) (by decide +kernel) (by decide) (by decide +kernel)
  have xs36 := xs35.sR (c := 12) (f := 5) (i := 0) (v := some (5, 0)) (by decide)
  rw [es36] at gs36 xs36
  clear es36
  refine ⟨_, _, rfl, rfl, 6, 100, _, _, rfl, rfl, ?_⟩
  rw [show cnt s36 4 = 0 from gs36.c (by decide +kernel)]
  generalize es37 : nO s36 4 = s37
  have gs37 := show Gr (nO s36 4) _ _ _ _ _ from gs36.nA (n := 0) (c := 4) (m := 0) (by decide +kernel) (by intro e; first | exact absurd e (by decide) | rfl) (by intro e; first | exact absurd e (by decide) | rfl)
  have xs37 := show XO σ (nO s36 4) from xs36.nA (by decide) (by decide)
  rw [es37] at gs37 xs37
  clear es37
  refine AMet.of rfl (Nat.le_of_ble_eq_true rfl) (vc_X3_init (d := d + 34) ?_)
  refine ⟨_, _, rfl, rfl, ?_⟩
  rw [show cnt s37 0 = 3 from gs37.c (by decide +kernel)]
  generalize es38 : nO s37 0 = s38
  have gs38 := show Gr (nO s37 0) _ _ _ _ _ from gs37.nA (n := 0) (c := 0) (m := 3) (by decide +kernel) (by intro e; first | exact absurd e (by decide) | rfl) (by intro e; first | exact absurd e (by decide) | rfl)
  have xs38 := show XO σ (nO s37 0) from xs37.nA (by decide) (by decide)
  rw [es38] at gs38 xs38
  clear es38
  refine a_list (m := 4) gs38 (by decide +kernel) (by decide) (by decide +kernel) (fun s39 ys39 gs39 => ?_)
  have xs39 := xs38.tr ys39
  dsimp only [retV]
  generalize es40 : sR s39 4 0 0 (some (0, 3)) = s40
  have gs40 := gs39.sR (c := 4) (f := 0) (i := 0) (v := (0, 3)) (m := 1) (by decide +kernel) (by decide) (by decide +kernel)
  have xs40 := xs39.sR (c := 4) (f := 0) (i := 0) (v := some (0, 3)) (by decide)
  rw [es40] at gs40 xs40
  clear es40
  refine ⟨_, _, rfl, rfl, ?_⟩
  rw [show cnt s40 0 = 4 from gs40.c (by decide +kernel)]
  generalize es41 : nO s40 0 = s41
  have gs41 := show Gr (nO s40 0) _ _ _ _ _ from gs40.nA (n := 0) (c := 0) (m := 4) (by decide +kernel) (by intro e; first | exact absurd e (by decide) | rfl) (by intro e; first | exact absurd e (by decide) | rfl)
  have xs41 := show XO σ (nO s40 0) from xs40.nA (by decide) (by decide)
  rw [es41] at gs41 xs41
  clear es41
  refine a_list (m := 5) gs41 (by decide +kernel) (by decide) (by decide +kernel) (fun s42 ys42 gs42 => ?_)
  have xs42 := xs41.tr ys42
  dsimp only [retV]
  generalize es43 : sR s42 4 1 0 (some (0, 4)) = s43
  have gs43 := gs42.sR (c := 4) (f := 1) (i := 0) (v := (0, 4)) (m := 1) (by decide +kernel) (by decide) (by decide +kernel)
  have xs43 := xs42.sR (c := 4) (f := 1) (i := 0) (v := some (0, 4)) (by decide)
  rw [es43] at gs43 xs43
  clear es43
  refine ⟨_, _, rfl, rfl, ?_⟩
  rw [show cnt s43 20 = 5 from gs43.c (by decide +kernel)]
  generalize es44 : nA s43 20 5 = s44
  have gs44 := gs43.nA (n := 5) (c := 20) (m := 5) (by decide +kernel) (fun e => absurd e (by decide)) (fun e => absurd e (by decide))
  have xs44 := xs43.nA (c := 20) (n := 5) (by decide) (by decide)
  rw [es44] at gs44 xs44
  clear es44
  generalize es45 : sR s44 4 2 0 (some (20, 5)) = s45
  have gs45 := gs44.sR (c := 4) (f := 2) (i := 0) (v := (20, 5)) (m := 1) (by decide +kernel) (by decide) (by decide +kernel)
  have xs45 := xs44.sR (c := 4) (f := 2) (i := 0) (v := some (20, 5)) (by decide)
  rw [es45] at gs45 xs45
  clear es45
  try dsimp only [retV]
  generalize es46 : sR s45 12 7 0 (some (4, 0)) = s46
  have gs46 := gs45.sR (c := 12) (f := 7) (i := 0) (v := (4, 0)) (m := 1) (by decide +kernel) (by decide) (by decide +kernel)
  have xs46 := xs45.sR (c := 12) (f := 7) (i := 0) (v := some (4, 0)) (by decide)
  rw [es46] at gs46 xs46
  clear es46
  refine ⟨_, _, rfl, rfl, ?_⟩
  rw [show cnt s46 0 = 5 from gs46.c (by decide +kernel)]
  generalize es47 : nO s46 0 = s47
  have gs47 := show Gr (nO s46 0) _ _ _ _ _ from gs46.nA (n := 0) (c := 0) (m := 5) (by decide +kernel) (by intro e; first | exact absurd e (by decide) | rfl) (by intro e; first | exact absurd e (by decide) | rfl)
  have xs47 := show XO σ (nO s46 0) from xs46.nA (by decide) (by decide)
  rw [es47] at gs47 xs47
  clear es47
  refine a_list (m := 6) gs47 (by decide +kernel) (by decide) (by decide +kernel) (fun s48 ys48 gs48 => ?_)
  have xs48 := xs47.tr ys48
  dsimp only [retV]
  generalize es49 : sR s48 12 8 0 (some (0, 5)) = s49
  have gs49 := gs48.sR (c := 12) (f := 8) (i := 0) (v := (0, 5)) (m := 1) (by decide +kernel) (by decide) (by decide +kernel)
  have xs49 := xs48.sR (c := 12) (f := 8) (i := 0) (v := some (0, 5)) (by decide)
  rw [es49] at gs49 xs49
  clear es49
  refine ⟨_, _, rfl, rfl, 1, 40, _, _, rfl, rfl, ?_⟩
  rw [show cnt s49 8 = 5 from gs49.c (by decide +kernel)]
  generalize es50 : nO s49 8 = s50
  have gs50 := show Gr (nO s49 8) _ _ _ _ _ from gs49.nA (n := 0) (c := 8) (m := 5) (by decide +kernel) (by intro e; first | exact absurd e (by decide) | rfl) (by intro e; first | exact absurd e (by decide) | rfl)
  have xs50 := show XO σ (nO s49 8) from xs49.nA (by decide) (by decide)
  rw [es50] at gs50 xs50
  clear es50
  refine a_row (n := 40) (m := 6) (a := 6) gs50 (by decide) (by decide +kernel) (by decide) (by decide +kernel) (by decide +kernel) (by decide +kernel) (fun s51 ys51 gs51 => ?_)
  have xs51 := xs50.tr ys51
  dsimp only [retV]
  generalize es52 : sR s51 12 9 0 (some (8, 5)) = s52
  have gs52 := gs51.sR (c := 12) (f := 9) (i := 0) (v := (8, 5)) (m := 1) (by decide +kernel) (by decide) (by decide +kernel)
  have xs52 := xs51.sR (c := 12) (f := 9) (i := 0) (v := some (8, 5)) (by decide)
  rw [es52] at gs52 xs52
  clear es52
  exact h _ xs52 (Gr.to gs52 (by decide +kernel) (by decide +kernel) (by decide +kernel))
/-- the same, the things numbered as they were in the first class -/
theorem c_cinit (hg : Gr σ [] [(12, 0, 0), (23, 0, 0)] (upC iC 12 0) 0 0) (h : ∀ s, XO σ s → Gr s cLR cLN cC (-1) 0 → post none s) : AMet G l M_X11_init (d + 36) 60 9000 [xR (some (12, 0))] σ post := by
  refine AMet.ren (post1 := fun v s => v = none ∧ XO σ s ∧ Gr s dLR dLN cC (-1) 0) (c_cinit0 hg (fun s x g => ⟨rfl, x, g⟩)) ⟨hg.c (by decide +kernel), hg.c (by decide +kernel), hg.c (by decide +kernel)⟩ (fun v s hs => ?_)
  obtain ⟨rfl, x, g⟩ := hs
  have n0 : cnt s 0 = 6 := g.c (by decide +kernel)
  have n8 : cnt s 8 = 6 := g.c (by decide +kernel)
  have n20 : cnt s 20 = 7 := g.c (by decide +kernel)
  have hn : Many s := ⟨by omega, by omega, by omega⟩
  exact ⟨rfl, hn, h _ x.ren (Gr.to (g.ren hn (by decide +kernel)) (by decide +kernel) (by decide +kernel) (by decide +kernel))⟩
end CINIT
