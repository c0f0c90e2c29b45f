/-! the reference solves: one sweep -/
section
variable {R : RMo} {I : RIn} {sl : List Nat} {ρ : Plc → Nat} {M M1 M' : Mem} {h y n : Nat} {Q : Option Value → Mem → Prop} {x1 x2 : Int32}
theorem cd_le (h2 : ∀ j, ρ j ≤ 2) : cdR R I ρ y n ≤ 2 := by
  have al : ∀ i, alF R I ρ y n i ≤ 2 := fun i => by
    cases i with
    | zero => exact oI_le _
    | succ i => exact v3A_le _ _
  unfold cdR
  by_cases k2 : (moS R).2 80 y = 2
  · rw [if_pos k2]
    by_cases a : n = 1
    · rw [if_pos a]; exact h2 _
    rw [if_neg a]
    by_cases b : n = 0
    · rw [if_pos b]; exact v3A_le _ _
    · rw [if_neg b]; decide
  rw [if_neg k2]
  by_cases k3 : (moS R).2 80 y = 3
  · rw [if_pos k3]
    by_cases a : Int32.ofNat n = moN R y
    · rw [if_pos a]; exact h2 _
    · rw [if_neg a]; decide
  rw [if_neg k3]
  by_cases k4 : (moS R).2 80 y = 4 ∨ (moS R).2 80 y = 5
  · rw [if_pos k4]
    by_cases a : n = 0 ∧ (moS R).2 84 ((moG R y).getD 0 0) = -1
    · rw [if_pos a]; exact v3O_le _ _
    · rw [if_neg a]; exact oI_le _
  rw [if_neg k4]
  by_cases k6 : (moS R).2 80 y = 6
  · rw [if_pos k6]
    by_cases a : n = 0
    · rw [if_pos a]; exact h2 _
    · rw [if_neg a]; exact oI_le _
  rw [if_neg k6]
  by_cases k7 : (moS R).2 80 y = 7
  · rw [if_pos k7]
    by_cases a : n = 0
    · rw [if_pos a]; decide
    · rw [if_neg a]; exact h2 _
  rw [if_neg k7]
  by_cases k8 : (moS R).2 80 y = 8
  · rw [if_pos k8]
    by_cases a : n = 1
    · rw [if_pos a]; exact v3O_le _ _
    · rw [if_neg a]; exact h2 _
  rw [if_neg k8]
  by_cases k9 : (moS R).2 80 y = 9
  · rw [if_pos k9]; exact al _
  rw [if_neg k9]
  by_cases k10 : (moS R).2 80 y = 10
  · rw [if_pos k10]
    by_cases a : n = 0
    · rw [if_pos a]; exact v3O_le _ _
    rw [if_neg a]
    by_cases b : n = 1
    · rw [if_pos b]; exact h2 _
    rw [if_neg b]
    by_cases c : n + 1 < moC R
    · rw [if_pos c]; exact h2 _
    · rw [if_neg c]; decide
  rw [if_neg k10]
  by_cases a : n = 0
  · rw [if_pos a]; exact h2 _
  · rw [if_neg a]; decide
theorem Fr_cd (hy : inR R y) (hn : n < moC R) : FrR R I ρ (4, y, n) = cdR R I ρ y n := by
  show FrA R I ρ 4 y n = _
  unfold FrA
  rw [if_neg (by decide), if_pos rfl, if_pos ⟨hy, hn⟩]
/-- all codes of a node -/
theorem R_cds (hS : RmS R sl M) (hI : RbI R I M) (hb : ∀ s, iBf I s ≤ 1) (hV : RSv R ρ M) (hL : NdL R) (hy : inR R y) (hJ : JF (FrR R I) ρ) (K : ∀ ρ' M', SvS R ρ M ρ' M' → JF (FrR R I) ρ' → (ρ' = ρ → ∀ n, n < moC R → FrR R I ρ (4, y, n) = ρ (4, y, n)) → T (h + 5) mdX11_solve 199 [(0, .ref 29), (1, .int x1), (2, .int (x2 + 1))] [] M' Q) : T (h + 5) mdX11_solve 251 [(0, .ref 29), (1, .int x1), (2, .int x2), (4, .int (Int32.ofNat y)), (5, .int 0)] [] M Q := by
  obtain ⟨⟨h4, -, -, c3, c20, -⟩, -⟩ := id hS
  obtain ⟨b1, b2, b3⟩ := hy.b hS
  have main : ∀ (d n : Nat) (ρ1 : Plc → Nat) (M1 : Mem), n + d = moC R → SvS R ρ M ρ1 M1 → JF (FrR R I) ρ1 → (ρ1 = ρ → ∀ k, k < n → FrR R I ρ (4, y, k) = ρ (4, y, k)) → T (h + 5) mdX11_solve 251 [(0, .ref 29), (1, .int x1), (2, .int x2), (4, .int (Int32.ofNat y)), (5, .int (Int32.ofNat n))] [] M1 Q := by
    intro d
    induction d with
    | zero =>
      intro n ρ1 M1 hn k1 J1 f1
      have F1 := k1.1.fix hI.1
      have S1 := k1.rm hS
      have I1 := k1.1.bi hI
      refine VX11_solve_251 (h := h + 4) ?_
      unfold DX11_solve_251 DX11_solve_304
      rw [I1.2.1, lt32 (show moM R < 2147483648 by omega)]
      refine ⟨ok29 F1, 92, rf29_74 F1, ok92 F1, by rw [ln92 F1]; exact vp_of h4 (by decide), ?_⟩
      rw [S1.2.2.2.2.2.2.1, show n = moC R by omega]
      exact ⟨fun _ => K ρ1 M1 k1 J1 (fun e k hk => f1 e k (by omega)), fun z => absurd Int32.le_rfl z⟩
    | succ d ih =>
      intro n ρ1 M1 hn k1 J1 f1
      have F1 := k1.1.fix hI.1
      have S1 := k1.rm hS
      have I1 := k1.1.bi hI
      have nk : n < moC R := by omega
      refine VX11_solve_251 (h := h + 4) ?_
      unfold DX11_solve_251
      rw [I1.2.1, lt32 (show moM R < 2147483648 by omega), ix700 b3 (by omega), ix24]
      refine ⟨ok29 F1, 92, rf29_74 F1, ok92 F1, by rw [ln92 F1]; exact vp_of h4 (by decide), ?_⟩
      rw [S1.2.2.2.2.2.2.1]
      refine ⟨fun z => ?_, fun _ => ⟨99, rf29_81 F1, R_codeV (h := h) S1 I1 hb k1.2.1 hL hy nk (fun M5 A5 _ => ⟨_, rfl, ?_⟩)⟩⟩
      · have := (le32 (by omega) (by omega)).mp z
        omega
      have k5 : SvS R ρ1 M1 ρ1 M5 := SvS.ar k1.2.1 A5
      have F5 := k5.1.fix F1
      have lq : lq3 (ρ1 (4, y, n)) (cdR R I ρ1 y n) := by
        have q := J1.1 (4, y, n)
        rw [Fr_cd hy nk] at q
        exact q
      refine R_known (i := (4, y, n)) (h := h + 3) (k5.rm S1) F5 k5.2.1 (Or.inr (Or.inl ⟨rfl, hy, nk⟩)) (cd_le k1.2.1.1) lq (fun M7 k7 _ => ⟨rfl, ?_⟩)
      have J7 := J1.up (v' := upP ρ1 (4, y, n) (cdR R I ρ1 y n)) FrR_mo (fun i => by
        unfold upP
        by_cases z : i = (4, y, n)
        · rw [if_pos z, z]; exact Or.inr (Fr_cd hy nk).symm
        · rw [if_neg z]; exact Or.inl rfl)
      rw [succ32]
      refine ih (n + 1) _ M7 (by omega) ((k1.tr k5).tr k7) J7.1 (fun e k hk => ?_)
      have e1 : ρ1 = ρ := by
        funext i
        have a := k1.2.2.1 i
        have b := J7.2 i
        rw [e] at b
        exact b.an a
      by_cases z : k = n
      · have q := congrFun e (4, y, n)
        unfold upP at q
        rw [if_pos rfl, e1] at q
        rw [z, Fr_cd hy nk]
        exact q
      · exact f1 e1 k (by omega)
  exact main (moC R) 0 ρ M (by omega) (SvS.rf hV) hJ (fun _ k hk => absurd hk (Nat.not_lt_zero _))
theorem sar1 {a : Nat} (h : a < 1048576) : Int32.ofNat a >>> ((1 : Int32) &&& 31) = Int32.ofNat (a / 2) := by
  have hc : cbI (Int32.ofNat a) := by
    unfold cbI
    rw [Int32.toBitVec_ofNat', BitVec.toNat_ofNat, Nat.mod_eq_of_lt (by omega)]
    exact h
  have e1 : Int32.ofNat a >>> ((1 : Int32) &&& 31) = us1 (Int32.ofNat a) := Int32.toBitVec_inj.mp (by rw [us1_b]; exact shr_b (k := 1) (by decide) hc)
  rw [e1, us1_of (by omega)]
/-- the steps: every node is entered once and left once -/
def StL (R : RMo) (sl : List Nat) : Prop := (∀ s ∈ sl, ∃ z, inR R z ∧ (s = 2 * z ∨ s = 2 * z + 1)) ∧ (∀ z, inR R z → 2 * z ∈ sl ∧ 2 * z + 1 ∈ sl) ∧ sl.length ≤ 1400
theorem R_sweep (hS : RmS R sl M) (hI : RbI R I M) (hb : ∀ s, iBf I s ≤ 1) (hV : RSv R ρ M) (hL : NdL R) (hM : EmL R) (hG : SgL R) (hN : InK R I ρ) (hT : StL R sl) (hJ : JF (FrR R I) ρ) (K : ∀ ρ' M', SvS R ρ M ρ' M' → JF (FrR R I) ρ' → (ρ' = ρ → ∀ i, FrR R I ρ i = ρ i) → T (h + 5) mdX11_solve 185 [(0, .ref 29), (1, .int x1)] [] M' Q) : T (h + 5) mdX11_solve 199 [(0, .ref 29), (1, .int x1), (2, .int 0)] [] M Q := by
  obtain ⟨⟨h4, hGG, q16, c3, c20, -⟩, -⟩ := id hS
  have h7 := hGG.1.2
  obtain ⟨t1, t2, t3⟩ := hT
  -- what step s settles
  have main : ∀ (d i : Nat) (ρ1 : Plc → Nat) (M1 : Mem), i + d = sl.length → SvS R ρ M ρ1 M1 → JF (FrR R I) ρ1 → (ρ1 = ρ → ∀ k z, k < i → inR R z → (sl.getD k 0 = 2 * z → ∀ c, c ≤ 3 → FrR R I ρ (c, z, 0) = ρ (c, z, 0)) ∧ (sl.getD k 0 = 2 * z + 1 → ∀ n, n < moC R → FrR R I ρ (4, z, n) = ρ (4, z, n))) → T (h + 5) mdX11_solve 199 [(0, .ref 29), (1, .int x1), (2, .int (Int32.ofNat i))] [] M1 Q := by
    intro d
    induction d with
    | zero =>
      intro i ρ1 M1 hi k1 J1 f1
      have ei : i = sl.length := by omega
      have F1 := k1.1.fix hI.1
      have S1 := k1.rm hS
      have I1 := k1.1.bi hI
      have N1 := hN.lq k1.2.2.1
      refine VX11_solve_199 (h := h + 4) ?_
      unfold DX11_solve_199
      rw [I1.2.1, lt32 (show moM R < 2147483648 by omega)]
      refine ⟨ok29 F1, 94, rf29_76 F1, ok94 F1, by rw [ln94 F1]; exact vp_of h4 (by decide), ?_⟩
      rw [S1.2.2.2.2.2.2.2.1, ei]
      refine ⟨fun _ => R_sigs (h := h + 2) S1 I1 k1.2.1 hL hG N1 J1 (fun ρ2 M2 k2 J2 f2 _ => ⟨rfl, K ρ2 M2 (k1.tr k2) J2 (fun e => ?_)⟩), fun z => absurd Int32.le_rfl z⟩
      have e1 : ρ1 = ρ := by
        funext j
        have a := k1.2.2.1 j
        have b := k2.2.2.1 j
        rw [e] at b
        exact b.an a
      have e2 : ρ2 = ρ1 := e.trans e1.symm
      have f2 := f2 e2
      rw [e1] at f2
      have f1 := f1 e1
      intro j
      obtain ⟨c, z, n⟩ := j
      have ix : ∀ {v : Nat}, v ∈ sl → ∃ k, k < i ∧ sl.getD k 0 = v := fun {v} hv => by
        obtain ⟨k, kl, ke⟩ := List.mem_iff_getElem.mp hv
        exact ⟨k, by omega, by rw [gd_el kl]; exact ke⟩
      by_cases p : plR R (c, z, n)
      · rcases p with ⟨c3, iz, n0⟩ | ⟨c4, iz, nk⟩ | ⟨c5, zs, n0⟩
        · have n0 : n = 0 := n0
          obtain ⟨k, k1', k2'⟩ := ix (t2 z iz).1
          rw [n0]
          exact (f1 k z k1' iz).1 k2' c c3
        · have c4 : c = 4 := c4
          obtain ⟨k, k1', k2'⟩ := ix (t2 z iz).2
          rw [c4]
          exact (f1 k z k1' iz).2 k2' n nk
        · have c5 : c = 5 := c5
          have n0 : n = 0 := n0
          rw [c5, n0]
          exact f2 z zs
      · rw [hV.2.1 _ p]
        show FrA R I ρ c z n = 2
        unfold FrA
        by_cases c3 : c ≤ 3
        · rw [if_pos c3, if_neg (fun q => p (Or.inl ⟨c3, q.1, q.2⟩))]
        rw [if_neg c3]
        by_cases c4 : c = 4
        · rw [if_pos c4, if_neg (fun q => p (Or.inr (Or.inl ⟨c4, q.1, q.2⟩)))]
        · rw [if_neg c4, if_neg (fun q => p (Or.inr (Or.inr ⟨q.1, q.2.1, q.2.2⟩)))]
    | succ d ih =>
      intro i ρ1 M1 hi k1 J1 f1
      have il : i < sl.length := by omega
      have F1 := k1.1.fix hI.1
      have S1 := k1.rm hS
      have I1 := k1.1.bi hI
      obtain ⟨z, iz, ez⟩ := t1 (sl.getD i 0) (by rw [gd_el il]; exact List.getElem_mem il)
      obtain ⟨b1, b2, b3⟩ := iz.b hS
      have e93 : mAI M1 93 (1400 * moM R + i) = Int32.ofNat (sl.getD i 0) := S1.2.2.2.2.2.2.2.2.1 i il
      have e14 : (1400 : Int32) * Int32.ofNat (moM R) + Int32.ofNat i = Int32.ofNat (1400 * moM R + i) := by rw [Int32.ofNat_add, Int32.ofNat_mul]; rfl
      have sb : sl.getD i 0 < 6000 := by omega
      refine VX11_solve_199 (h := h + 4) ?_
      unfold DX11_solve_199 DX11_solve_304
      rw [I1.2.1, lt32 (show moM R < 2147483648 by omega), e14, lt32 (show 1400 * moM R + i < 2147483648 by omega)]
      refine ⟨ok29 F1, 94, rf29_76 F1, ok94 F1, by rw [ln94 F1]; exact vp_of h4 (by decide), ?_⟩
      rw [S1.2.2.2.2.2.2.2.1]
      refine ⟨fun q => ?_, fun _ => ⟨93, rf29_75 F1, ok93 F1, by rw [ln93 F1]; exact vp_of (by omega) (by decide), ?_⟩⟩
      · have := (le32 (by omega) (by omega)).mp q
        omega
      rw [e93, sar1 (by omega), par32 (by omega), succ32]
      have uniq : ∀ {z' : Nat}, sl.getD i 0 / 2 = z' → z' = z := fun e => by omega
      rw [show sl.getD i 0 / 2 = z by omega]
      refine ⟨fun q => ?_, fun q => ?_⟩
      · refine R_cds (x2 := Int32.ofNat i) (h := h) S1 I1 hb k1.2.1 hL iz J1 (fun ρ2 M2 k2 J2 f2 => ?_)
        rw [succ32]
        refine ih (i + 1) ρ2 M2 (by omega) (k1.tr k2) J2 (fun e k z' hk iz' => ?_)
        have e1 : ρ1 = ρ := by
          funext j
          have a := k1.2.2.1 j
          have b := k2.2.2.1 j
          rw [e] at b
          exact b.an a
        by_cases y : k = i
        · rw [y]
          refine ⟨fun e0 => absurd (show sl.getD i 0 % 2 = 0 by omega) q, fun e0 => ?_⟩
          have ezz : z' = z := by omega
          rw [ezz]
          have f2 := f2 (e.trans e1.symm)
          rw [e1] at f2
          exact f2
        · exact f1 e1 k z' (by omega) iz'
      · refine R_enter (h := h) S1 I1 hb k1.2.1 hL hM iz J1 (fun ρ2 M2 k2 J2 f2 _ => ⟨rfl, ?_⟩)
        refine ih (i + 1) ρ2 M2 (by omega) (k1.tr k2) J2 (fun e k z' hk iz' => ?_)
        have e1 : ρ1 = ρ := by
          funext j
          have a := k1.2.2.1 j
          have b := k2.2.2.1 j
          rw [e] at b
          exact b.an a
        by_cases y : k = i
        · rw [y]
          refine ⟨fun e0 => ?_, fun e0 => absurd q (show ¬ sl.getD i 0 % 2 = 0 by omega)⟩
          have ezz : z' = z := by omega
          rw [ezz]
          have f2 := f2 (e.trans e1.symm)
          rw [e1] at f2
          exact f2
        · exact f1 e1 k z' (by omega) iz'
  exact main sl.length 0 ρ M (by omega) (SvS.rf hV) hJ (fun _ k z hk => absurd hk (Nat.not_lt_zero _))
end
