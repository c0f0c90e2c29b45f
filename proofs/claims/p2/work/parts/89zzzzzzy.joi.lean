/-! reference and class come to the same -/
section
variable {W : Wo} {R : RMo} {I : RIn} {Ψ : Wg} {P : Nat → Nat → Int32} {Θ : TrT} {tb : Nat → Bool} {tv : Nat → Nat} {zn fn g y0 x0 : Nat} {ρ : Plc → Nat} {v w : Nat → Nat}
theorem hvM_0 {set : Int32} : hvM set 0 = 0 := by
  unfold hvM
  rw [if_pos (by rw [Int32.and_zero])]
theorem NtK.t {L : List Nat} {n : Nat} (h : NtK W R I Ψ P L tb tv n) (ht : tb n = true) : (Ψ.2.1.getD n (0, 0)).1 ≠ 0 ∧ tv n < 2 ∧ ∀ i, Ψ.2.1.getD n (0, 0) = (6, i) → tv n = HVm I (Ψ.2.2.getD i 0) := by
  rcases h with ⟨-, e⟩ | ⟨a, -, b⟩ | ⟨e, -⟩ | ⟨e, -⟩
  · rw [e] at ht; exact absurd ht (by decide)
  · exact ⟨a, b⟩
  · rw [e] at ht; exact absurd ht (by decide)
  · rw [e] at ht; exact absurd ht (by decide)
theorem NtK.z {L : List Nat} {n : Nat} (h : NtK W R I Ψ P L tb tv n) (h0 : (Ψ.2.1.getD n (0, 0)).1 = 0) : tb n = false := by
  rcases h with ⟨-, e⟩ | ⟨a, -⟩ | ⟨e, -⟩ | ⟨e, -⟩
  · exact e
  · exact absurd h0 a
  · exact e
  · exact e
theorem NtK.h {L : List Nat} {n i : Nat} (h : NtK W R I Ψ P L tb tv n) (h6 : Ψ.2.1.getD n (0, 0) = (6, i)) : tb n = true ∧ tv n = HVm I (Ψ.2.2.getD i 0) := by
  rcases h with ⟨a, -⟩ | ⟨-, a, -, b⟩ | ⟨-, t, -, -, -, e, -⟩ | ⟨-, z, -, ⟨-, e⟩ | ⟨-, e⟩, -⟩
  · rw [h6] at a; exact absurd (show (6 : Nat) = 0 from a) (by decide)
  · exact ⟨a, b i h6⟩
  · rw [h6] at e; exact absurd (show (6 : Nat) = 3 from congrArg Prod.fst e) (by decide)
  · rw [h6] at e; exact absurd (show (6 : Nat) = 7 from congrArg Prod.fst e) (by decide)
  · rw [h6] at e; exact absurd (show (6 : Nat) = 8 from congrArg Prod.fst e) (by decide)
/-- the open net of a node -/
theorem NtK.o {L : List Nat} {n z : Nat} (h : NtK W R I Ψ P L tb tv n) (ht : tb n = false) (hr : Ψ.2.1.getD n (0, 0) = (if (woV W z).1 = 6 then 7 else 8, z)) : ClQ Ψ n (clO W P z) := by
  have e1 : (Ψ.2.1.getD n (0, 0)).1 = if (woV W z).1 = 6 then 7 else 8 := by rw [hr]
  have e78 : (Ψ.2.1.getD n (0, 0)).1 = 7 ∨ (Ψ.2.1.getD n (0, 0)).1 = 8 := by
    rw [e1]
    by_cases y : (woV W z).1 = 6
    · rw [if_pos y]; exact Or.inl rfl
    · rw [if_neg y]; exact Or.inr rfl
  rcases h with ⟨a, -⟩ | ⟨-, a, -⟩ | ⟨-, t, -, -, -, e, -⟩ | ⟨-, z', -, e, -, c⟩
  · omega
  · rw [a] at ht; exact absurd ht (by decide)
  · rw [e] at e78; exact absurd e78 (by show ¬ ((3 : Nat) = 7 ∨ (3 : Nat) = 8); decide)
  · have ez : z' = z := by
      have e2 : (Ψ.2.1.getD n (0, 0)).2 = z := by rw [hr]
      rcases e with ⟨-, e⟩ | ⟨-, e⟩
      · rw [e] at e2; exact e2
      · rw [e] at e2; exact e2
    rw [← ez]; exact c
theorem J_v (hC : ClW W R I Ψ P Θ (noL (chV W) g x0) tb tv y0 x0) (hv : ∀ n, FcN Ψ.1 tb tv v n = v n) : gT I Ψ tb tv v := by
  obtain ⟨⟨hR, hl, hq⟩, hN, ⟨t0, v0⟩, -⟩ := hC
  have told : ∀ n, n < Ψ.1.length → tb n = true → v n = tv n := fun n hn ht => by
    rw [← hv n]
    unfold FcN
    rw [if_pos hn, if_pos ht]
  refine ⟨⟨⟨by rw [told 0 (by omega) t0, v0], fun n => ?_, fun n hn r0 => ?_⟩, hvM_0, fun n i hn ri => ?_⟩, told⟩
  · rw [← hv n]
    unfold FcN
    by_cases z : n < Ψ.1.length
    · rw [if_pos z]
      by_cases y : tb n = true
      · rw [if_pos y]
        have := ((hN n z).t y).2.1
        omega
      · rw [if_neg y]; exact v3A_le _ _
    · rw [if_neg z]; exact Nat.le_refl _
  · have tf := (hN n hn).z r0
    rw [← hv n]
    show FcN Ψ.1 tb tv v n = _
    unfold FcN
    rw [if_pos hn, if_neg (by rw [tf]; decide)]
  · rw [hR.1] at hn
    obtain ⟨q1, q2⟩ := (hN n hn).h ri
    rw [told n hn q1, q2]
theorem lok_S {u : Plc → Nat} {sv : Nat → Nat} {r : Nat → Nat → Prop} (hc : Cg r) (hY : ∀ d, d ∈ moY R → d.1 = 0 → d.2.1 < moQ R) (h : ∀ s, s < moQ R → r (u (5, s, 0)) (sv s)) (d : Nat) : r (lokR R I u d) (lokS R I sv d) := by
  unfold lokR lokS cndR
  by_cases z : (moS R).2 80 d = 5
  · rw [if_pos z, if_pos z]; exact hc.1 _
  · rw [if_neg z, if_neg z]
    exact hc.cl1 (fun e he e0 => h _ (hY e he e0)) _
theorem J_sb (hT : TwT W R zn fn y0 x0 g) (hC : ClW W R I Ψ P Θ (noL (chV W) g x0) tb tv y0 x0) (hK : PrK W R Θ y0 x0) (hw : gW Ψ w (HVm I)) {d c : Nat} (h : DsR W R y0 x0 d c) : SbA W R I (hvW Θ (HVm I)) (cvW P w) (ckW P w) (coW P w) (ccW Θ w) d c := by
  obtain ⟨-, -, -, ⟨p', hR⟩, -⟩ := hT
  have ft := RpN.ft g [] y0 x0 0 p' hR
  obtain ⟨-, -, -, -, hE, -⟩ := hC
  obtain ⟨k1, k2⟩ := hK d c h
  have cl : c ∈ noL (chV W) g x0 := by
    obtain ⟨n, h⟩ := h
    exact ds_no ft n d c h
  refine ⟨?_, k2, hE w hw c cl, fun c' hc' => hE w hw c' (noL_ch g x0 c c' ft cl hc')⟩
  show hvM (iSet I) (Θ.2.2 12 c) = _
  rw [k1]
theorem J_up (hT : TwT W R zn fn y0 x0 g) (hC : ClW W R I Ψ P Θ (noL (chV W) g x0) tb tv y0 x0) (hK : PrK W R Θ y0 x0) (h3 : 3 ≤ moC R ∧ moC R ≤ 20) (hv : ∀ n, FcN Ψ.1 tb tv v n = v n) (hJ : JF (FrR R I) ρ) : (∀ d c, DsR W R y0 x0 d c → Mw lq3 ρ (cvW P v) d c ∧ Mk lq3 ρ (ckW P v) (moC R) d c) ∧ ∀ s, s < moQ R → lq3 (ρ (5, s, 0)) (v (2 + s)) := by
  have gv := J_v hC hv
  obtain ⟨hG, hA, hy, ⟨p', hR⟩, hall⟩ := id hT
  have ft := RpN.ft g [] y0 x0 0 p' hR
  obtain ⟨⟨hRo, hl, hq⟩, hN, -, hO, -, hrt, hin, hsg, hY⟩ := id hC
  obtain ⟨hr0, hlk⟩ := hrt v gv
  have vf : ∀ n, n < Ψ.1.length → tb n = false → ∀ {f : (Nat → Nat) → Nat}, ClQ Ψ n f → v n = f v := fun n hn tf f c => by
    obtain ⟨lc, c1, -, c3⟩ := c
    rw [← c3 v _ gv.1, ← hv n]
    unfold FcN
    rw [if_pos hn, if_neg (by rw [tf]; decide), c1]
    exact v3A_s (lv_le gv.1.1.2.1)
  have cl : ∀ d c, DsR W R y0 x0 d c → c ∈ noL (chV W) g x0 := fun d c h => by
    obtain ⟨n, h⟩ := h
    exact ds_no ft n d c h
  have cb : ∀ c j, ckW P v c j ≤ 2 := fun c j => lv_le gv.1.1.2.1
  have oc : ∀ d c, DsR W R y0 x0 d c → (woV W c).1 = 6 ∨ (woV W c).1 = 9 → coW P v c = clO W P c v := fun d c h hk => by
    obtain ⟨l, l1, l2, l3, l4⟩ := (hO c (cl d c h)).2 hk
    have q := vf l l2 l3 ((hN l l2).o l3 l4)
    show lV v (P 26 c) = _
    rw [l1, lV_of (by omega), lv_2]
    exact q
  have hS : CSo W R I (hvW Θ (HVm I)) (cvW P v) (ckW P v) (coW P v) (ccW Θ v) (fun s => v (2 + s)) y0 x0 := by
    refine ⟨fun d c h => ⟨J_sb hT hC hK gv.1 h, fun k6 => ?_, fun k9 => ?_⟩, hr0, cb, fun s hs h0 => ?_⟩
    · rw [oc d c h (Or.inl k6)]
      unfold clO
      rw [if_pos k6]
    · rw [oc d c h (Or.inr k9)]
      unfold clO
      rw [if_neg (by rw [k9]; decide)]
    · obtain ⟨q1, q2⟩ := hin s hs h0
      show v (2 + s) = _
      rw [gv.2 (2 + s) (by omega) q1, q2]
  refine U_p (cs := fun s => v (2 + s)) hG h3 hy hR hS (fun u hu d c h hk => ?_) (fun u hu s hs hn => ?_) hJ
  · have q := lok_S (I := I) (sv := fun s => v (2 + s)) Cg_lq hY hu d
    rw [hlk d c h hk] at q
    exact q
  · obtain ⟨tf, rl⟩ := hsg s hs hn
    have q := em_up (cv := cvW P v) hT hu s
    have e : v (2 + s) = emC (woV W) (cvW P v) s (noL (chV W) g x0) 0 := by
      rcases hN (2 + s) (by omega) with ⟨a, -⟩ | ⟨-, a, -⟩ | ⟨-, t, t1, t2, t3, t4, t5⟩ | ⟨-, z, -, ⟨-, e⟩ | ⟨-, e⟩, -⟩
      · rw [rl] at a; exact absurd (show (3 : Nat) = 0 from a) (by decide)
      · rw [a] at tf; exact absurd tf (by decide)
      · have et : t = s := by omega
        rw [et] at t5
        exact vf (2 + s) (by omega) tf t5
      · rw [rl] at e; exact absurd (show (3 : Nat) = 7 from congrArg Prod.fst e) (by decide)
      · rw [rl] at e; exact absurd (show (3 : Nat) = 8 from congrArg Prod.fst e) (by decide)
    show lq3 _ (v (2 + s))
    rw [e]
    exact q
end
