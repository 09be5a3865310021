/-! The class's constructor. -/
section CINIT
variable {G : GG} {l : Launch} {d : Nat} {post : Option AVal → AS → Prop} {σ : AS}
def iC : List (Nat × Nat) := [(0, 0), (1, 0), (2, 0), (3, 0), (4, 0), (5, 0), (6, 0), (7, 0), (8, 0), (9, 0), (10, 0), (11, 0), (12, 0), (13, 0), (20, 0), (21, 0), (22, 0), (24, 0), (26, 0)]
def cLR : List (Nat × Nat × Nat × Nat × Nat) := [(12, 9, 0, 8, 5), (8, 0, 5, 20, 6), (12, 8, 0, 0, 5), (0, 1, 5, 23, 0), (12, 7, 0, 4, 0), (4, 2, 0, 20, 5), (4, 1, 0, 0, 4), (0, 1, 4, 23, 0), (4, 0, 0, 0, 3), (0, 1, 3, 23, 0), (12, 6, 0, 7, 0), (7, 2, 0, 0, 0), (7, 1, 0, 8, 4), (8, 0, 4, 20, 4), (7, 0, 0, 0, 2), (0, 1, 2, 23, 0), (12, 5, 0, 5, 0), (5, 1, 0, 8, 3), (8, 0, 3, 20, 3), (5, 0, 0, 8, 2), (8, 0, 2, 20, 2), (12, 4, 0, 0, 1), (0, 1, 1, 23, 0), (12, 3, 0, 3, 0), (3, 0, 0, 10, 0), (3, 1, 0, 8, 1), (8, 0, 1, 20, 1), (12, 2, 0, 10, 0), (10, 2, 0, 8, 0), (12, 1, 0, 8, 0), (8, 0, 0, 20, 0), (12, 0, 0, 0, 0), (0, 1, 0, 23, 0)]
def cLN : List (Nat × Nat × Nat) := [(20, 6, 40), (8, 5, 0), (0, 5, 0), (20, 5, 5), (0, 4, 0), (0, 3, 0), (4, 0, 0), (20, 4, 6), (8, 4, 0), (0, 2, 0), (7, 0, 0), (20, 3, 2600), (8, 3, 0), (20, 2, 2600), (8, 2, 0), (5, 0, 0), (0, 1, 0), (20, 1, 1000), (8, 1, 0), (3, 0, 0), (10, 0, 0), (20, 0, 1000), (8, 0, 0), (0, 0, 0), (12, 0, 0), (23, 0, 0)]
def cC : List (Nat × Nat) := [(0, 6), (1, 0), (2, 0), (3, 1), (4, 1), (5, 1), (6, 0), (7, 1), (8, 6), (9, 0), (10, 1), (11, 0), (12, 1), (13, 0), (20, 7), (21, 0), (22, 0), (24, 0), (26, 0)]
theorem Gr.to {LR LR' : List (Nat × Nat × Nat × Nat × Nat)} {LN LN' : List (Nat × Nat × Nat)} {C C' : List (Nat × Nat)} {k10 k13 : Int32} (h : Gr σ LR LN C k10 k13) (h1 : ∀ t ∈ LR', t ∈ LR) (h2 : ∀ t ∈ LN', t ∈ LN) (h3 : ∀ t ∈ C', t ∈ C) : Gr σ LR' LN' C' k10 k13 := ⟨fun t ht => h.1 t (h1 t ht), fun t ht => h.2.1 t (h2 t ht), fun p hp => h.2.2.1 p (h3 p hp), h.2.2.2⟩
set_option maxRecDepth 4000 in
set_option maxHeartbeats 4000000 in
theorem c_cinit (hg : Gr σ [] [(12, 0, 0), (23, 0, 0)] (upC iC 12 0) 0 0) (h : ∀ s, XO σ s → Gr s cLR cLN cC (-1) 0 → post none s) : AMet G l M_X11_init (d + 36) 60 9000 [xR (some (12, 0))] σ post := by
  have gσ := hg
  have xσ : XO σ σ := XO.rf
  refine AMet.of rfl (Nat.le_of_ble_eq_true rfl) (vc_X11_init (d := d + 35) ?_)
  refine ⟨_, _, rfl, rfl, ?_⟩
  rw [show cnt σ 0 = 0 from gσ.c (by decide +kernel)]
  generalize es1 : nO σ 0 = s1
  have gs1 := show Gr (nO σ 0) _ _ _ _ _ from gσ.nA (n := 0) (c := 0) (m := 0) (by decide +kernel) (by intro e; first | exact absurd e (by decide) | rfl) (by intro e; first | exact absurd e (by decide) | rfl)
  have xs1 := show XO σ (nO σ 0) from xσ.nA (by decide) (by decide)
  rw [es1] at gs1 xs1
  clear es1
  refine a_list (m := 1) gs1 (by decide +kernel) (by decide) (by decide +kernel) (fun s2 ys2 gs2 => ?_)
  have xs2 := xs1.tr ys2
  dsimp only [retV]
  generalize es3 : sR s2 12 0 0 (some (0, 0)) = s3
  have gs3 := gs2.sR (c := 12) (f := 0) (i := 0) (v := (0, 0)) (m := 1) (by decide +kernel) (by decide) (by decide +kernel)
  have xs3 := xs2.sR (c := 12) (f := 0) (i := 0) (v := some (0, 0)) (by decide)
  rw [es3] at gs3 xs3
  clear es3
  refine ⟨_, _, rfl, rfl, 1, 1000, _, _, rfl, rfl, ?_⟩
  rw [show cnt s3 8 = 0 from gs3.c (by decide +kernel)]
  generalize es4 : nO s3 8 = s4
  have gs4 := show Gr (nO s3 8) _ _ _ _ _ from gs3.nA (n := 0) (c := 8) (m := 0) (by decide +kernel) (by intro e; first | exact absurd e (by decide) | rfl) (by intro e; first | exact absurd e (by decide) | rfl)
  have xs4 := show XO σ (nO s3 8) from xs3.nA (by decide) (by decide)
  rw [es4] at gs4 xs4
  clear es4
  refine a_row (n := 1000) (m := 1) (a := 0) gs4 (by decide) (by decide +kernel) (by decide) (by decide +kernel) (by decide +kernel) (by decide +kernel) (fun s5 ys5 gs5 => ?_)
  have xs5 := xs4.tr ys5
  dsimp only [retV]
  generalize es6 : sR s5 12 1 0 (some (8, 0)) = s6
  have gs6 := gs5.sR (c := 12) (f := 1) (i := 0) (v := (8, 0)) (m := 1) (by decide +kernel) (by decide) (by decide +kernel)
  have xs6 := xs5.sR (c := 12) (f := 1) (i := 0) (v := some (8, 0)) (by decide)
  rw [es6] at gs6 xs6
  clear es6
  refine ⟨_, _, rfl, rfl, ?_⟩
  rw [show cnt s6 10 = 0 from gs6.c (by decide +kernel)]
  generalize es7 : nO s6 10 = s7
  have gs7 := show Gr (nO s6 10) _ _ _ _ _ from gs6.nA (n := 0) (c := 10) (m := 0) (by decide +kernel) (by intro e; first | exact absurd e (by decide) | rfl) (by intro e; first | exact absurd e (by decide) | rfl)
  have xs7 := show XO σ (nO s6 10) from xs6.nA (by decide) (by decide)
  rw [es7] at gs7 xs7
  clear es7
  refine AMet.of rfl (Nat.le_of_ble_eq_true rfl) (vc_X9_init (d := d + 34) ?_)
  dsimp only [retV]
  generalize es8 : sI s7 10 1 0 (-1) = s8
  have gs8 := gs7.s10 (v := -1)
  have xs8 := xs7.tr ⟨eqK_sI (a := 10) (f := 1) (i := 0) (v := -1) (by decide), fun _ => rfl⟩
  rw [es8] at gs8 xs8
  clear es8
  generalize es9 : sR s8 10 2 0 (some (8, 0)) = s9
  have gs9 := gs8.sR (c := 10) (f := 2) (i := 0) (v := (8, 0)) (m := 1) (by decide +kernel) (by decide) (by decide +kernel)
  have xs9 := xs8.sR (c := 10) (f := 2) (i := 0) (v := some (8, 0)) (by decide)
  rw [es9] at gs9 xs9
  clear es9
  generalize es10 : sR s9 12 2 0 (some (10, 0)) = s10
  have gs10 := gs9.sR (c := 12) (f := 2) (i := 0) (v := (10, 0)) (m := 1) (by decide +kernel) (by decide) (by decide +kernel)
  have xs10 := xs9.sR (c := 12) (f := 2) (i := 0) (v := some (10, 0)) (by decide)
  rw [es10] at gs10 xs10
  clear es10
  refine ⟨_, _, rfl, rfl, 3, 1010, _, _, rfl, rfl, ?_⟩
  rw [show cnt s10 3 = 0 from gs10.c (by decide +kernel)]
  generalize es11 : nO s10 3 = s11
  have gs11 := show Gr (nO s10 3) _ _ _ _ _ from gs10.nA (n := 0) (c := 3) (m := 0) (by decide +kernel) (by intro e; first | exact absurd e (by decide) | rfl) (by intro e; first | exact absurd e (by decide) | rfl)
  have xs11 := show XO σ (nO s10 3) from xs10.nA (by decide) (by decide)
  rw [es11] at gs11 xs11
  clear es11
  refine AMet.of rfl (Nat.le_of_ble_eq_true rfl) (vc_X2_init (d := d + 34) ?_)
  refine ⟨_, _, rfl, rfl, 1, 1000, _, _, rfl, rfl, ?_⟩
  rw [show cnt s11 8 = 1 from gs11.c (by decide +kernel)]
  generalize es12 : nO s11 8 = s12
  have gs12 := show Gr (nO s11 8) _ _ _ _ _ from gs11.nA (n := 0) (c := 8) (m := 1) (by decide +kernel) (by intro e; first | exact absurd e (by decide) | rfl) (by intro e; first | exact absurd e (by decide) | rfl)
  have xs12 := show XO σ (nO s11 8) from xs11.nA (by decide) (by decide)
  rw [es12] at gs12 xs12
  clear es12
  refine a_row (n := 1000) (m := 2) (a := 1) gs12 (by decide) (by decide +kernel) (by decide) (by decide +kernel) (by decide +kernel) (by decide +kernel) (fun s13 ys13 gs13 => ?_)
  have xs13 := xs12.tr ys13
  dsimp only [retV]
  generalize es14 : sR s13 3 1 0 (some (8, 1)) = s14
  have gs14 := gs13.sR (c := 3) (f := 1) (i := 0) (v := (8, 1)) (m := 1) (by decide +kernel) (by decide) (by decide +kernel)
  have xs14 := xs13.sR (c := 3) (f := 1) (i := 0) (v := some (8, 1)) (by decide)
  rw [es14] at gs14 xs14
  clear es14
  generalize es15 : sR s14 3 0 0 (some (10, 0)) = s15
  have gs15 := gs14.sR (c := 3) (f := 0) (i := 0) (v := (10, 0)) (m := 1) (by decide +kernel) (by decide) (by decide +kernel)
  have xs15 := xs14.sR (c := 3) (f := 0) (i := 0) (v := some (10, 0)) (by decide)
  rw [es15] at gs15 xs15
  clear es15
  try dsimp only [retV]
  generalize es16 : sR s15 12 3 0 (some (3, 0)) = s16
  have gs16 := gs15.sR (c := 12) (f := 3) (i := 0) (v := (3, 0)) (m := 1) (by decide +kernel) (by decide) (by decide +kernel)
  have xs16 := xs15.sR (c := 12) (f := 3) (i := 0) (v := some (3, 0)) (by decide)
  rw [es16] at gs16 xs16
  clear es16
  refine ⟨_, _, rfl, rfl, ?_⟩
  rw [show cnt s16 0 = 1 from gs16.c (by decide +kernel)]
  generalize es17 : nO s16 0 = s17
  have gs17 := show Gr (nO s16 0) _ _ _ _ _ from gs16.nA (n := 0) (c := 0) (m := 1) (by decide +kernel) (by intro e; first | exact absurd e (by decide) | rfl) (by intro e; first | exact absurd e (by decide) | rfl)
  have xs17 := show XO σ (nO s16 0) from xs16.nA (by decide) (by decide)
  rw [es17] at gs17 xs17
  clear es17
  refine a_list (m := 2) gs17 (by decide +kernel) (by decide) (by decide +kernel) (fun s18 ys18 gs18 => ?_)
  have xs18 := xs17.tr ys18
  dsimp only [retV]
  generalize es19 : sR s18 12 4 0 (some (0, 1)) = s19
  have gs19 := gs18.sR (c := 12) (f := 4) (i := 0) (v := (0, 1)) (m := 1) (by decide +kernel) (by decide) (by decide +kernel)
  have xs19 := xs18.sR (c := 12) (f := 4) (i := 0) (v := some (0, 1)) (by decide)
  rw [es19] at gs19 xs19
  clear es19
  refine ⟨_, _, rfl, rfl, 6, 5300, _, _, rfl, rfl, ?_⟩
  rw [show cnt s19 5 = 0 from gs19.c (by decide +kernel)]
  generalize es20 : nO s19 5 = s20
  have gs20 := show Gr (nO s19 5) _ _ _ _ _ from gs19.nA (n := 0) (c := 5) (m := 0) (by decide +kernel) (by intro e; first | exact absurd e (by decide) | rfl) (by intro e; first | exact absurd e (by decide) | rfl)
  have xs20 := show XO σ (nO s19 5) from xs19.nA (by decide) (by decide)
  rw [es20] at gs20 xs20
  clear es20
  refine AMet.of rfl (Nat.le_of_ble_eq_true rfl) (vc_X4_init (d := d + 34) ?_)
  refine ⟨_, _, rfl, rfl, 1, 2600, _, _, rfl, rfl, ?_⟩
  rw [show cnt s20 8 = 2 from gs20.c (by decide +kernel)]
  generalize es21 : nO s20 8 = s21
  have gs21 := show Gr (nO s20 8) _ _ _ _ _ from gs20.nA (n := 0) (c := 8) (m := 2) (by decide +kernel) (by intro e; first | exact absurd e (by decide) | rfl) (by intro e; first | exact absurd e (by decide) | rfl)
  have xs21 := show XO σ (nO s20 8) from xs20.nA (by decide) (by decide)
  rw [es21] at gs21 xs21
  clear es21
  refine a_row (n := 2600) (m := 3) (a := 2) gs21 (by decide) (by decide +kernel) (by decide) (by decide +kernel) (by decide +kernel) (by decide +kernel) (fun s22 ys22 gs22 => ?_)
  have xs22 := xs21.tr ys22
  dsimp only [retV]
  generalize es23 : sR s22 5 0 0 (some (8, 2)) = s23
  have gs23 := gs22.sR (c := 5) (f := 0) (i := 0) (v := (8, 2)) (m := 1) (by decide +kernel) (by decide) (by decide +kernel)
  have xs23 := xs22.sR (c := 5) (f := 0) (i := 0) (v := some (8, 2)) (by decide)
  rw [es23] at gs23 xs23
  clear es23
  refine ⟨_, _, rfl, rfl, 1, 2600, _, _, rfl, rfl, ?_⟩
  rw [show cnt s23 8 = 3 from gs23.c (by decide +kernel)]
  generalize es24 : nO s23 8 = s24
  have gs24 := show Gr (nO s23 8) _ _ _ _ _ from gs23.nA (n := 0) (c := 8) (m := 3) (by decide +kernel) (by intro e; first | exact absurd e (by decide) | rfl) (by intro e; first | exact absurd e (by decide) | rfl)
  have xs24 := show XO σ (nO s23 8) from xs23.nA (by decide) (by decide)
  rw [es24] at gs24 xs24
  clear es24
  refine a_row (n := 2600) (m := 4) (a := 3) gs24 (by decide) (by decide +kernel) (by decide) (by decide +kernel) (by decide +kernel) (by decide +kernel) (fun s25 ys25 gs25 => ?_)
  have xs25 := xs24.tr ys25
  dsimp only [retV]
  generalize es26 : sR s25 5 1 0 (some (8, 3)) = s26
  have gs26 := gs25.sR (c := 5) (f := 1) (i := 0) (v := (8, 3)) (m := 1) (by decide +kernel) (by decide) (by decide +kernel)
  have xs26 := xs25.sR (c := 5) (f := 1) (i := 0) (v := some (8, 3)) (by decide)
  rw [es26] at gs26 xs26
  clear es26
  try dsimp only [retV]
  rw [show gR s26 12 0 0 = some (0, 0) from (gs26.1 (12, 0, 0, 0, 0) (by decide +kernel)).1]
  generalize es27 : sR s26 12 5 0 (some (5, 0)) = s27
  have gs27 := gs26.sR (c := 12) (f := 5) (i := 0) (v := (5, 0)) (m := 1) (by decide +kernel) (by decide) (by decide +kernel)
  have xs27 := xs26.sR (c := 12) (f := 5) (i := 0) (v := some (5, 0)) (by decide)
  rw [es27] at gs27 xs27
  clear es27
  refine ⟨_, _, rfl, rfl, 6, 100, _, _, rfl, rfl, ?_⟩
  rw [show cnt s27 7 = 0 from gs27.c (by decide +kernel)]
  generalize es28 : nO s27 7 = s28
  have gs28 := show Gr (nO s27 7) _ _ _ _ _ from gs27.nA (n := 0) (c := 7) (m := 0) (by decide +kernel) (by intro e; first | exact absurd e (by decide) | rfl) (by intro e; first | exact absurd e (by decide) | rfl)
  have xs28 := show XO σ (nO s27 7) from xs27.nA (by decide) (by decide)
  rw [es28] at gs28 xs28
  clear es28
  refine AMet.of rfl (Nat.le_of_ble_eq_true rfl) (vc_X6_init (d := d + 34) ?_)
  refine ⟨_, _, rfl, rfl, ?_⟩
  rw [show cnt s28 0 = 2 from gs28.c (by decide +kernel)]
  generalize es29 : nO s28 0 = s29
  have gs29 := show Gr (nO s28 0) _ _ _ _ _ from gs28.nA (n := 0) (c := 0) (m := 2) (by decide +kernel) (by intro e; first | exact absurd e (by decide) | rfl) (by intro e; first | exact absurd e (by decide) | rfl)
  have xs29 := show XO σ (nO s28 0) from xs28.nA (by decide) (by decide)
  rw [es29] at gs29 xs29
  clear es29
  refine a_list (m := 3) gs29 (by decide +kernel) (by decide) (by decide +kernel) (fun s30 ys30 gs30 => ?_)
  have xs30 := xs29.tr ys30
  dsimp only [retV]
  generalize es31 : sR s30 7 0 0 (some (0, 2)) = s31
  have gs31 := gs30.sR (c := 7) (f := 0) (i := 0) (v := (0, 2)) (m := 1) (by decide +kernel) (by decide) (by decide +kernel)
  have xs31 := xs30.sR (c := 7) (f := 0) (i := 0) (v := some (0, 2)) (by decide)
  rw [es31] at gs31 xs31
  clear es31
  refine ⟨_, _, rfl, rfl, 1, 6, _, _, rfl, rfl, ?_⟩
  rw [show cnt s31 8 = 4 from gs31.c (by decide +kernel)]
  generalize es32 : nO s31 8 = s32
  have gs32 := show Gr (nO s31 8) _ _ _ _ _ from gs31.nA (n := 0) (c := 8) (m := 4) (by decide +kernel) (by intro e; first | exact absurd e (by decide) | rfl) (by intro e; first | exact absurd e (by decide) | rfl)
  have xs32 := show XO σ (nO s31 8) from xs31.nA (by decide) (by decide)
  rw [es32] at gs32 xs32
  clear es32
  refine a_row (n := 6) (m := 5) (a := 4) gs32 (by decide) (by decide +kernel) (by decide) (by decide +kernel) (by decide +kernel) (by decide +kernel) (fun s33 ys33 gs33 => ?_)
  have xs33 := xs32.tr ys33
  dsimp only [retV]
  generalize es34 : sR s33 7 1 0 (some (8, 4)) = s34
  have gs34 := gs33.sR (c := 7) (f := 1) (i := 0) (v := (8, 4)) (m := 1) (by decide +kernel) (by decide) (by decide +kernel)
  have xs34 := xs33.sR (c := 7) (f := 1) (i := 0) (v := some (8, 4)) (by decide)
  rw [es34] at gs34 xs34
  clear es34
  generalize es35 : sR s34 7 2 0 (some (0, 0)) = s35
  have gs35 := gs34.sR (c := 7) (f := 2) (i := 0) (v := (0, 0)) (m := 1) (by decide +kernel) (by decide) (by decide +kernel)
  have xs35 := xs34.sR (c := 7) (f := 2) (i := 0) (v := some (0, 0)) (by decide)
  rw [es35] at gs35 xs35
  clear es35
  try dsimp only [retV]
  generalize es36 : sR s35 12 6 0 (some (7, 0)) = s36
  have gs36 := gs35.sR (c := 12) (f := 6) (i := 0) (v := (7, 0)) (m := 1) (by decide +kernel) (by decide) (by decide +kernel)
  have xs36 := xs35.sR (c := 12) (f := 6) (i := 0) (v := some (7, 0)) (by decide)
  rw [es36] at gs36 xs36
  clear es36
  refine ⟨_, _, rfl, rfl, 6, 100, _, _, rfl, rfl, ?_⟩
  rw [show cnt s36 4 = 0 from gs36.c (by decide +kernel)]
  generalize es37 : nO s36 4 = s37
  have gs37 := show Gr (nO s36 4) _ _ _ _ _ from gs36.nA (n := 0) (c := 4) (m := 0) (by decide +kernel) (by intro e; first | exact absurd e (by decide) | rfl) (by intro e; first | exact absurd e (by decide) | rfl)
  have xs37 := show XO σ (nO s36 4) from xs36.nA (by decide) (by decide)
  rw [es37] at gs37 xs37
  clear es37
  refine AMet.of rfl (Nat.le_of_ble_eq_true rfl) (vc_X3_init (d := d + 34) ?_)
  refine ⟨_, _, rfl, rfl, ?_⟩
  rw [show cnt s37 0 = 3 from gs37.c (by decide +kernel)]
  generalize es38 : nO s37 0 = s38
  have gs38 := show Gr (nO s37 0) _ _ _ _ _ from gs37.nA (n := 0) (c := 0) (m := 3) (by decide +kernel) (by intro e; first | exact absurd e (by decide) | rfl) (by intro e; first | exact absurd e (by decide) | rfl)
  have xs38 := show XO σ (nO s37 0) from xs37.nA (by decide) (by decide)
  rw [es38] at gs38 xs38
  clear es38
  refine a_list (m := 4) gs38 (by decide +kernel) (by decide) (by decide +kernel) (fun s39 ys39 gs39 => ?_)
  have xs39 := xs38.tr ys39
  dsimp only [retV]
  generalize es40 : sR s39 4 0 0 (some (0, 3)) = s40
  have gs40 := gs39.sR (c := 4) (f := 0) (i := 0) (v := (0, 3)) (m := 1) (by decide +kernel) (by decide) (by decide +kernel)
  have xs40 := xs39.sR (c := 4) (f := 0) (i := 0) (v := some (0, 3)) (by decide)
  rw [es40] at gs40 xs40
  clear es40
  refine ⟨_, _, rfl, rfl, ?_⟩
  rw [show cnt s40 0 = 4 from gs40.c (by decide +kernel)]
  generalize es41 : nO s40 0 = s41
  have gs41 := show Gr (nO s40 0) _ _ _ _ _ from gs40.nA (n := 0) (c := 0) (m := 4) (by decide +kernel) (by intro e; first | exact absurd e (by decide) | rfl) (by intro e; first | exact absurd e (by decide) | rfl)
  have xs41 := show XO σ (nO s40 0) from xs40.nA (by decide) (by decide)
  rw [es41] at gs41 xs41
  clear es41
  refine a_list (m := 5) gs41 (by decide +kernel) (by decide) (by decide +kernel) (fun s42 ys42 gs42 => ?_)
  have xs42 := xs41.tr ys42
  dsimp only [retV]
  generalize es43 : sR s42 4 1 0 (some (0, 4)) = s43
  have gs43 := gs42.sR (c := 4) (f := 1) (i := 0) (v := (0, 4)) (m := 1) (by decide +kernel) (by decide) (by decide +kernel)
  have xs43 := xs42.sR (c := 4) (f := 1) (i := 0) (v := some (0, 4)) (by decide)
  rw [es43] at gs43 xs43
  clear es43
  refine ⟨_, _, rfl, rfl, ?_⟩
  rw [show cnt s43 20 = 5 from gs43.c (by decide +kernel)]
  generalize es44 : nA s43 20 5 = s44
  have gs44 := gs43.nA (n := 5) (c := 20) (m := 5) (by decide +kernel) (fun e => absurd e (by decide)) (fun e => absurd e (by decide))
  have xs44 := xs43.nA (c := 20) (n := 5) (by decide) (by decide)
  rw [es44] at gs44 xs44
  clear es44
  generalize es45 : sR s44 4 2 0 (some (20, 5)) = s45
  have gs45 := gs44.sR (c := 4) (f := 2) (i := 0) (v := (20, 5)) (m := 1) (by decide +kernel) (by decide) (by decide +kernel)
  have xs45 := xs44.sR (c := 4) (f := 2) (i := 0) (v := some (20, 5)) (by decide)
  rw [es45] at gs45 xs45
  clear es45
  try dsimp only [retV]
  generalize es46 : sR s45 12 7 0 (some (4, 0)) = s46
  have gs46 := gs45.sR (c := 12) (f := 7) (i := 0) (v := (4, 0)) (m := 1) (by decide +kernel) (by decide) (by decide +kernel)
  have xs46 := xs45.sR (c := 12) (f := 7) (i := 0) (v := some (4, 0)) (by decide)
  rw [es46] at gs46 xs46
  clear es46
  refine ⟨_, _, rfl, rfl, ?_⟩
  rw [show cnt s46 0 = 5 from gs46.c (by decide +kernel)]
  generalize es47 : nO s46 0 = s47
  have gs47 := show Gr (nO s46 0) _ _ _ _ _ from gs46.nA (n := 0) (c := 0) (m := 5) (by decide +kernel) (by intro e; first | exact absurd e (by decide) | rfl) (by intro e; first | exact absurd e (by decide) | rfl)
  have xs47 := show XO σ (nO s46 0) from xs46.nA (by decide) (by decide)
  rw [es47] at gs47 xs47
  clear es47
  refine a_list (m := 6) gs47 (by decide +kernel) (by decide) (by decide +kernel) (fun s48 ys48 gs48 => ?_)
  have xs48 := xs47.tr ys48
  dsimp only [retV]
  generalize es49 : sR s48 12 8 0 (some (0, 5)) = s49
  have gs49 := gs48.sR (c := 12) (f := 8) (i := 0) (v := (0, 5)) (m := 1) (by decide +kernel) (by decide) (by decide +kernel)
  have xs49 := xs48.sR (c := 12) (f := 8) (i := 0) (v := some (0, 5)) (by decide)
  rw [es49] at gs49 xs49
  clear es49
  refine ⟨_, _, rfl, rfl, 1, 40, _, _, rfl, rfl, ?_⟩
  rw [show cnt s49 8 = 5 from gs49.c (by decide +kernel)]
  generalize es50 : nO s49 8 = s50
  have gs50 := show Gr (nO s49 8) _ _ _ _ _ from gs49.nA (n := 0) (c := 8) (m := 5) (by decide +kernel) (by intro e; first | exact absurd e (by decide) | rfl) (by intro e; first | exact absurd e (by decide) | rfl)
  have xs50 := show XO σ (nO s49 8) from xs49.nA (by decide) (by decide)
  rw [es50] at gs50 xs50
  clear es50
  refine a_row (n := 40) (m := 6) (a := 6) gs50 (by decide) (by decide +kernel) (by decide) (by decide +kernel) (by decide +kernel) (by decide +kernel) (fun s51 ys51 gs51 => ?_)
  have xs51 := xs50.tr ys51
  dsimp only [retV]
  generalize es52 : sR s51 12 9 0 (some (8, 5)) = s52
  have gs52 := gs51.sR (c := 12) (f := 9) (i := 0) (v := (8, 5)) (m := 1) (by decide +kernel) (by decide) (by decide +kernel)
  have xs52 := xs51.sR (c := 12) (f := 9) (i := 0) (v := some (8, 5)) (by decide)
  rw [es52] at gs52 xs52
  clear es52
  exact h _ xs52 (Gr.to gs52 (by decide +kernel) (by decide +kernel) (by decide +kernel))
end CINIT
