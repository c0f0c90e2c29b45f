/-! what a sweep does to a lane -/
section
variable {N : Nt} {tb : Nat → Bool} {tv : Nat → Nat → Nat} {Y0 Z0 Y Z : Nat → Int32} {f : Int32} {i l j : Nat}
/-- a lane that a sweep leaves as it was is at rest -/
theorem swp_u (hS : NtS N tb) (h : SwI N tb tv Y0 Z0 N.length f Y Z) (hl : l < 32) (un : ∀ j, laV N.length Y Z l j = laV N.length Y0 Z0 l j) : LnX N tb tv Y Z l := by
  intro n
  by_cases hn : n < N.length
  · by_cases n0 : n = 0
    · have t : tb n = true := by rw [n0]; exact hS.2.1
      rw [(h.1.2 l hl).2 n hn t]
      unfold FcN
      rw [if_pos hn, if_pos t]
    · exact (h.2.1 l hl).2 un n (by omega) hn
  · unfold FcN laV
    rw [if_neg hn, if_neg hn]
/-- a lane that has changed was not at rest -/
theorem swp_c (hS : NtS N tb) (hJ : LnJ N tb tv Y0 Z0) (h : SwI N tb tv Y0 Z0 N.length f Y Z) (hI : ∀ l, l < 32 → LnX N tb tv Y0 Z0 l ∨ muU (laV N.length Y0 Z0 l) (List.range N.length) + i ≤ N.length) (hl : l < 32) (hj : j < N.length) (ne : laV N.length Y0 Z0 l j ≠ laV N.length Y Z l j) : muU (laV N.length Y Z l) (List.range N.length) + (i + 1) ≤ N.length := by
  have lq := (h.2.1 l hl).1
  rcases hI l hl with q | q
  · have b : Lq (laV N.length Y Z l) (laV N.length Y0 Z0 l) := (h.1.2 l hl).1.le FcN_mo q
    exact absurd ((lq j).an (b j)) ne
  · have := muU_lt lq (List.range N.length) j (List.mem_range.mpr hj) ne
    omega
theorem swp_x (hS : NtS N tb) (hJ : LnJ N tb tv Y0 Z0) (h : SwI N tb tv Y0 Z0 N.length f Y Z) (hI : ∀ l, l < 32 → LnX N tb tv Y0 Z0 l ∨ muU (laV N.length Y0 Z0 l) (List.range N.length) + i ≤ N.length) : ∀ l, l < 32 → LnX N tb tv Y Z l ∨ muU (laV N.length Y Z l) (List.range N.length) + (i + 1) ≤ N.length := by
  intro l hl
  by_cases z : ∃ j, j < N.length ∧ laV N.length Y0 Z0 l j ≠ laV N.length Y Z l j
  · obtain ⟨j, hj, ne⟩ := z
    exact Or.inr (swp_c hS hJ h hI hl hj ne)
  · refine Or.inl (swp_u hS h hl (fun j => ?_))
    by_cases hj : j < N.length
    · by_cases e : laV N.length Y0 Z0 l j = laV N.length Y Z l j
      · exact e.symm
      · exact absurd ⟨j, hj, e⟩ z
    · unfold laV
      rw [if_neg hj, if_neg hj]
end
/-! sweeps until nothing changes -/
section
variable {M : Mem} {x lc rc ya na : Nat} {N : Nt} {tb : Nat → Bool} {tv : Nat → Nat → Nat} {Y Z : Nat → Int32} {h : Nat} {Q : Option Value → Mem → Prop}
theorem S_sweep (hS : NtS N tb) (hL : CrL M x lc rc ya na N Y Z) (hJ : LnJ N tb tv Y Z) (K : ∀ M' Y' Z' f, CrL M' x lc rc ya na N Y' Z' → ArF (fun c => c = ya ∨ c = na) M M' → SwI N tb tv Y Z N.length f Y' Z' → Q (some (.int f)) M') : E (h + 2) mdX0_sweep [.ref x] M Q := by
  have main : ∀ (d n : Nat) (f : Int32) (M1 : Mem) (Y1 Z1 : Nat → Int32), n + d = N.length → 1 ≤ n → CrL M1 x lc rc ya na N Y1 Z1 → ArF (fun c => c = ya ∨ c = na) M M1 → SwI N tb tv Y Z n f Y1 Z1 → T (h + 2) mdX0_sweep 4 [(0, .ref x), (1, .int f), (2, .int (Int32.ofNat n))] [] M1 Q := by
    intro d
    induction d with
    | zero =>
      intro n f M1 Y1 Z1 hd h1 L1 A1 S1
      have en : n = N.length := by omega
      obtain ⟨⟨o1, c1, o2, c2, o3, i1, -⟩, -⟩ := id L1
      refine VX0_sweep_4 (h := h + 1) ?_
      unfold DX0_sweep_4
      rw [i1, en]
      refine ⟨o1, fun _ => ⟨?_, K M1 Y1 Z1 f L1 A1 (by rw [← en]; exact S1)⟩, fun z => absurd Int32.le_rfl z⟩
      rcases S1.2.2 with q | q
      · exact Or.inl q.1
      · exact Or.inr q.1
    | succ d ih =>
      intro n f M1 Y1 Z1 hd h1 L1 A1 S1
      have hn : n < N.length := by omega
      obtain ⟨⟨o1, c1, o2, c2, o3, i1, ⟨p1, p2, p3, p4, p5⟩, v, -, -⟩, ⟨r1, r2, r3, r4⟩, ⟨s1, s2, s3, s4⟩, ⟨y1, y2⟩, ⟨n1, -⟩, n6⟩ := id L1
      obtain ⟨a1, a2⟩ := hS.in hn
      obtain ⟨va, vc⟩ := v n hn
      obtain ⟨q1, q2⟩ := S1.st hS h1 hn _ _ rfl rfl
      have ln : (Int32.ofNat n).toNatClampNeg = n := lt32 (by omega)
      have nl : ¬ Int32.ofNat N.length ≤ Int32.ofNat n := fun z => by
        have := (le32 (by omega) (by omega)).mp z
        omega
      have vl : vp_in (Int32.ofNat n) (mL M1 lc) := vp_of (by omega) (by omega)
      have vr : vp_in (Int32.ofNat n) (mL M1 rc) := by rw [p3]; exact vl
      have vy : vp_in (Int32.ofNat n) (mL M1 ya) := vp_of (by omega) (by omega)
      have vz : vp_in (Int32.ofNat n) (mL M1 na) := vp_of (by omega) (by omega)
      obtain ⟨a, ea⟩ : ∃ a, a = (N.getD n (0, 0)).1 := ⟨_, rfl⟩
      obtain ⟨c, ec⟩ : ∃ c, c = (N.getD n (0, 0)).2 := ⟨_, rfl⟩
      rw [← ea] at a1 va q1 q2
      rw [← ec] at a2 vc q1 q2
      have u1 : upL Y1 n (laN Y1 Z1 a &&& laN Y1 Z1 c) n = laN Y1 Z1 a &&& laN Y1 Z1 c := if_pos rfl
      have u2 : upL Z1 n (laN Y1 Z1 (nlt a) ||| laN Y1 Z1 (nlt c)) n = laN Y1 Z1 (nlt a) ||| laN Y1 Z1 (nlt c) := if_pos rfl
      rw [u1, u2] at q1 q2
      -- net n is written
      have wr : ¬ (laN Y1 Z1 a &&& laN Y1 Z1 c = Y1 n ∧ laN Y1 Z1 (nlt a) ||| laN Y1 Z1 (nlt c) = Z1 n) → DX0_sweep_84 (h + 1) x (Int32.ofNat n) (laN Y1 Z1 a &&& laN Y1 Z1 c) (laN Y1 Z1 (nlt a) ||| laN Y1 Z1 (nlt c)) M1 Q := fun ne => by
        unfold DX0_sweep_84 DX0_sweep_101
        rw [ln, succ32]
        refine ⟨o1, ya, r1, r2, vy, fun M4 e4 => ⟨na, by rw [e4]; exact s1, by rw [e4]; exact s2, by rw [e4]; exact vz, fun M7 e7 => ?_⟩⟩
        have k4 : ArF (fun c => c = ya ∨ c = na) M1 M4 := ArF.up (Or.inl rfl) e4
        have k7 : ArF (fun c => c = ya ∨ c = na) M4 M7 := ArF.up (Or.inr rfl) e7
        have L7 : CrL M7 x lc rc ya na N (upL Y1 n (laN Y1 Z1 a &&& laN Y1 Z1 c)) (upL Z1 n (laN Y1 Z1 (nlt a) ||| laN Y1 Z1 (nlt c))) := by
          refine L1.ar (k4.tr k7) ?_ ?_
          · funext j
            rw [e7, mAI_wAI, if_neg (fun z => n1 z.1), e4, mAI_wAI, y1]
            unfold upL
            by_cases z : j = n
            · rw [if_pos ⟨rfl, z⟩, if_pos z]
            · rw [if_neg (fun q => z q.2), if_neg z]
          · funext j
            rw [e7, mAI_wAI]
            unfold upL
            by_cases z : j = n
            · rw [if_pos ⟨rfl, z⟩, if_pos z]
            · rw [if_neg (fun q => z q.2), if_neg z, e4, mAI_wAI, if_neg (fun q => n1 q.1.symm), y2]
        exact ih (n + 1) 1 M7 _ _ (by omega) (by omega) L7 (A1.tr (k4.tr k7)) (q2 ne)
      refine VX0_sweep_4 (h := h + 1) ?_
      unfold DX0_sweep_4
      rw [i1, ln]
      refine ⟨o1, fun z => absurd z nl, fun _ => ⟨lc, c1, o2, vl, ?_⟩⟩
      rw [va]
      refine S_lanes (h := h) L1 a1 (fun _ => ⟨_, rfl, rc, c2, o3, vr, ?_⟩)
      rw [vc]
      refine S_lanes (h := h) L1 a2 (fun _ => ⟨_, rfl, lc, c1, o2, vl, ?_⟩)
      rw [va]
      refine S_not (h := h) (by omega) (fun _ => ⟨_, rfl, S_lanes (h := h) L1 (nlt_lt a1) (fun _ => ⟨_, rfl, rc, c2, o3, vr, ?_⟩)⟩)
      rw [vc]
      refine S_not (h := h) (by omega) (fun _ => ⟨_, rfl, S_lanes (h := h) L1 (nlt_lt a2) (fun _ => ⟨_, rfl, ya, r1, r2, vy, fun z => ?_, fun z => ⟨na, s1, s2, vz, fun z2 => ?_, fun z2 => ?_⟩⟩)⟩)
      · rw [y1] at z
        exact wr (fun q => z q.1)
      · rw [y1] at z
        rw [y2] at z2
        unfold DX0_sweep_101
        rw [succ32]
        exact ih (n + 1) f M1 Y1 Z1 (by omega) (by omega) L1 A1 (q1 ⟨z, z2⟩)
      · rw [y2] at z2
        exact wr (fun q => z2 q.2)
  refine KX0_sweep (h := h + 1) ?_
  unfold DX0_sweep_0
  have l1 := hL.1.2.2.2.2.2.2.1.1
  exact main (N.length - 1) 1 0 M Y Z (by omega) (by decide) hL ArF.rf ⟨hJ, fun l hl => ⟨Lq.rf, fun _ j j1 j2 => by omega⟩, Or.inl ⟨rfl, fun _ _ _ => rfl⟩⟩
theorem S_settle (hS : NtS N tb) (hL : CrL M x lc rc ya na N Y Z) (hJ : LnJ N tb tv Y Z) (K : ∀ M' Y' Z', CrL M' x lc rc ya na N Y' Z' → ArF (fun c => c = ya ∨ c = na) M M' → LnJ N tb tv Y' Z' → (∀ l, l < 32 → LnX N tb tv Y' Z' l) → Q none M') : E (h + 3) mdX0_settle [.ref x] M Q := by
  have n6 := hL.2.2.2.2.2
  have main : ∀ (d i : Nat) (M1 : Mem) (Y1 Z1 : Nat → Int32), i + d = N.length → CrL M1 x lc rc ya na N Y1 Z1 → ArF (fun c => c = ya ∨ c = na) M M1 → LnJ N tb tv Y1 Z1 → (∀ l, l < 32 → LnX N tb tv Y1 Z1 l ∨ muU (laV N.length Y1 Z1 l) (List.range N.length) + i ≤ N.length) → T (h + 3) mdX0_settle 4 [(0, .ref x), (1, .int 1), (2, .int (Int32.ofNat i))] [] M1 Q := by
    intro d
    induction d with
    | zero =>
      intro i M1 Y1 Z1 hd L1 A1 J1 I1
      refine VX0_settle_4 (h := h + 2) ?_
      unfold DX0_settle_4 DX0_settle_25
      have nl : ¬ (1000000 : Int32) ≤ Int32.ofNat i := fun z => by
        have := (le32 (a := 1000000) (by decide) (by omega)).mp z
        omega
      refine ⟨fun z => absurd z nl, fun _ => ⟨fun z => absurd z (by decide), fun _ => ⟨L1.1.1, S_sweep (h := h) hS L1 J1 (fun M2 Y2 Z2 f L2 A2 S2 _ => ⟨f, rfl, ?_⟩)⟩⟩⟩
      -- all lanes have come to rest
      have fx := swp_x hS J1 S2 I1
      rcases S2.2.2 with ⟨f0, -⟩ | ⟨-, l, hl, j, hj, ne⟩
      · rw [f0]
        refine VX0_settle_4 (h := h + 2) ?_
        unfold DX0_settle_4 DX0_settle_25
        have q := K M2 Y2 Z2 L2 (A1.tr A2) S2.1 (fun l hl => (fx l hl).elim id (fun y => absurd y (by omega)))
        exact ⟨fun _ => q, fun _ => ⟨fun _ => q, fun z => absurd rfl z⟩⟩
      · have := swp_c hS J1 S2 I1 hl hj ne
        omega
    | succ d ih =>
      intro i M1 Y1 Z1 hd L1 A1 J1 I1
      refine VX0_settle_4 (h := h + 2) ?_
      unfold DX0_settle_4 DX0_settle_25
      have nl : ¬ (1000000 : Int32) ≤ Int32.ofNat i := fun z => by
        have := (le32 (a := 1000000) (by decide) (by omega)).mp z
        omega
      refine ⟨fun z => absurd z nl, fun _ => ⟨fun z => absurd z (by decide), fun _ => ⟨L1.1.1, S_sweep (h := h) hS L1 J1 (fun M2 Y2 Z2 f L2 A2 S2 _ => ⟨f, rfl, ?_⟩)⟩⟩⟩
      have fx := swp_x hS J1 S2 I1
      rcases S2.2.2 with ⟨f0, un⟩ | ⟨f1, -⟩
      · rw [f0]
        refine VX0_settle_4 (h := h + 2) ?_
        unfold DX0_settle_4 DX0_settle_25
        have q := K M2 Y2 Z2 L2 (A1.tr A2) S2.1 (fun l hl => swp_u hS S2 hl (un l hl))
        exact ⟨fun _ => q, fun _ => ⟨fun _ => q, fun z => absurd rfl z⟩⟩
      · rw [f1, succ32]
        exact ih (i + 1) M2 Y2 Z2 (by omega) L2 (A1.tr A2) S2.1 fx
  refine KX0_settle (h := h + 2) ?_
  unfold DX0_settle_0
  exact main N.length 0 M Y Z (by omega) hL ArF.rf hJ (fun l hl => Or.inr (by
    have := muU_len (v := laV N.length Y Z l) (List.range N.length)
    rw [List.length_range] at this
    omega))
end
