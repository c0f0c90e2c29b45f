/-! a woven module's nets are what ClW says: conditions, root, all of it -/
section
variable {τ : Td} {m : Nat} {σ : PS} {root : Nat} {γ : Gh} {g0 n0 gw : Nat} {Z0 P : Nat → Nat → Int32} {zp : Int32} {Ψ1 Ψ2 : Wg} {w : Nat → Nat} {R : RMo} {I : RIn} {ift : Nat → Nat} {y0 g : Nat}
/-- what goes with the woven nets goes with those of the reading -/
theorem MdW.cn (h : MdW τ m σ root γ g0 n0 gw Z0 P zp Ψ1 Ψ2) (k : gW Ψ2 w (HVm I)) : cnC σ.2.1.2.2.1 w := by
  obtain ⟨l1, l2, l3, l4⟩ := h.ln
  have k1 := h.g1 k
  obtain ⟨hE, hX, -, -, hk, ⟨f1, f2, f3, f4⟩, r1, r2, -⟩ := id h
  refine ⟨k.1.1, k.1.2.1, fun n hn ne => ?_⟩
  have rk := hE.1.2.1.1.1.2 n hn
  have r0 : (γ.2.2.getD n (0, 0)).1 = 0 := by
    by_cases z : (γ.2.2.getD n (0, 0)).1 = 0
    · exact z
    · rw [rk.2 z] at ne; exact absurd rfl ne
  have ro : (Ψ1.2.1.getD n (0, 0)).1 = 0 := by
    have q : Ψ1.2.1.getD n (0, 0) = (m6R γ.2.2).getD n (0, 0) := hk.1.1.2.2.1 n hn
    rw [q, m6_gd (by omega), if_neg (by rw [r0]; decide)]
    exact r0
  have q := k1.1.2.2 n (by omega) ro
  have e : Ψ1.1.getD n (0, 0) = σ.2.1.2.2.1.getD n (0, 0) := hk.1.1.2.1 n hn (fun z => by have z : σ.2.1.2.2.1.length ≤ n := z; omega)
  rw [e] at q
  exact q
/-- a condition's literal says what the reference works -/
theorem MdW.cd (h : MdW τ m σ root γ g0 n0 gw Z0 P zp Ψ1 Ψ2) (hb : InB R I ift) (k : gT I Ψ2 (tbR R Ψ2) (tvR I ift Ψ2) w) {c : Nat} (hc : c < σ.2.2.2.length) : lvN w (γ.2.1.getD c 0) = (cvL (fun s => w (2 + s)) (iBf I) σ.2.2.2).getD c 0 := by
  obtain ⟨l1, l2, l3, l4⟩ := h.ln
  obtain ⟨hE, hX, -, -, -, -, -, -, big, -⟩ := id h
  have sm := hE.1.2.1.2.2.2
  refine sm w (fun s => w (2 + s)) (iBf I) (h.cn k.1) (fun s hs => ?_) (fun s hs => ?_) c hc
  · unfold sgT
    rw [if_pos hs, show 4 + 2 * s = 2 * (2 + s) by omega, lv_2]
  · obtain ⟨b1, b2, b3⟩ := hE.1.2.1.1.2.2.2 s hs
    obtain ⟨n, en⟩ : ∃ n, σ.2.1.2.2.2.1 s = 2 * n := ⟨σ.2.1.2.2.2.1 s / 2, by omega⟩
    rw [en, show 2 * n / 2 = n by omega] at b2 b3
    rw [en, lv_2]
    have er : roN Ψ2 n = (4, s) := by rw [h.ro (by omega), m6_gd b2, b3, if_neg (show ¬ (4 : Nat) = 6 by decide)]
    have n2 : 2 ≤ n := by
      by_cases z : n < 2
      · rcases h.r2 z with q | q
        · rw [er] at q; exact absurd (show (4 : Nat) = 1 from congrArg Prod.fst q) (by decide)
        · rw [er] at q; exact absurd (show (4 : Nat) = 2 from congrArg Prod.fst q) (by decide)
      · omega
    rw [k.2 n (by omega) (by rw [tb_r er n2]; rfl), tv_r er n2, if_neg (by decide), if_pos rfl]
theorem MdW.cl (h : MdW τ m σ root γ g0 n0 gw Z0 P zp Ψ1 Ψ2) (hT : TwT (woS τ m σ γ) R σ.2.2.2.length (ifS σ).length y0 root g) (hR : MdR τ m σ R) (hb : InB R I ift) (h16 : τ.1.length ≤ 16) (hy41 : σ.2.2.2.length ≤ 410) (hIf : ∀ d j f, inR R d → (moS R).2 80 d = 5 → j < 40 → (moS R).2 81 d = Int32.ofNat (40 * m + j) → woP (woS τ m σ γ) j 4 = Int32.ofNat f → f < (ifS σ).length → iTr I (40 * m + j) = ift f) : ClW (woS τ m σ γ) R I Ψ2 P (trS σ) (noL (chV (woS τ m σ γ)) g root) (tbR R Ψ2) (tvR I ift Ψ2) y0 root := by
  obtain ⟨eL, inb⟩ := h.L hT
  obtain ⟨l1, l2, l3, l4⟩ := h.ln
  obtain ⟨hE, hX, ft, z21, hk', ⟨f1, f2, f3, f4⟩, r1, r2, big, -, n132⟩ := id h
  obtain ⟨m1, m2, m3, m4, m5⟩ := id hR
  obtain ⟨hG, hA, hy, ⟨p', hRp⟩, hall⟩ := id hT
  refine ⟨⟨r2, big, by omega⟩, fun n hn => h.nt hT hR hb h16 hn, ⟨tb_lt (by decide), if_pos rfl⟩, fun z hz => ⟨?_, fun hk => ?_⟩, fun w k z hz => h.ce hT k hz, fun w k => ⟨fun c hc => ?_, fun d c hd hk => ?_⟩, fun s hs t0 => ?_, fun s hs t0 => ?_, fun d hd d0 => ?_⟩
  · rw [← eL] at hz
    obtain ⟨⟨⟨o1, o2⟩, -⟩, -⟩ := h.nd hz
    have up : ∀ {v : Int32}, okI Ψ1 v → okI Ψ2 v := fun {v} ⟨l, e, hl⟩ => ⟨l, e, by omega⟩
    exact ⟨fun c c1 c2 => up (o1 c c1 c2), fun n hn => up (o2 n hn)⟩
  · obtain ⟨l, p1, ⟨p2, p2'⟩, p3, -⟩ := h.op hT hz hk
    refine ⟨l, p1, p2', ?_, p3⟩
    rw [tb_r p3 p2]
    by_cases y : (trS σ).2.2 5 z = 6
    · rw [if_pos y]; rfl
    · rw [if_neg y]; rfl
  · -- the root
    have sb := hk'.2.2.2.2.2.1
    have w1 : w 1 = if iFi I = 1 then 1 else 0 := by
      rw [k.2 1 (by omega) (tb_lt (by decide))]
      unfold tvR
      rw [if_neg (by decide), if_pos rfl]
    have q4 : up4 Z0 root 2 3 0 0 22 root = 2 ∧ up4 Z0 root 2 3 0 0 23 root = 3 ∧ up4 Z0 root 2 3 0 0 24 root = 0 ∧ up4 Z0 root 2 3 0 0 25 root = 0 := by unfold up4; simp
    have v0 : lV w 0 = 0 := by
      have e : (0 : Int32) = Int32.ofNat 0 := rfl
      rw [e, lV_of (by decide), lR_0 k.1.1]
    unfold cvW
    have : c = 0 ∨ c = 1 ∨ c = 2 ∨ c = 3 := by omega
    rcases this with e | e | e | e <;> rw [e]
    · rw [sb 22 (by decide) (by decide), q4.1]
      show lvN w (2 * 1) = _
      rw [lv_2, w1]
      rfl
    · rw [sb 23 (by decide) (by decide), q4.2.1]
      show v3N (w 1) = _
      have e1 : rtV I 1 = if iFi I = 1 then 0 else 1 := rfl
      rw [w1, e1]
      by_cases y : iFi I = 1
      · rw [if_pos y, if_pos y]; rfl
      · rw [if_neg y, if_neg y]; rfl
    · rw [sb 24 (by decide) (by decide), q4.2.2.1, v0]; rfl
    · rw [sb 25 (by decide) (by decide), q4.2.2.2, v0]; rfl
  · -- conditions
    obtain ⟨n, dn⟩ := id hd
    obtain ⟨g', cx', q, q', kk⟩ := DsI.rp n (y0, root) g [] 0 p' dn hRp
    have kk : RpN (woS τ m σ γ) (moM R) σ.2.2.2.length (ifS σ).length (vwM R) (hiM R) g' cx' d c q q' := kk
    have di : inR R d := kk.in
    have big4 := hG.1.1
    -- a condition
    have con : ∀ j, j < 40 → (moS R).2 81 d = Int32.ofNat (40 * moM R + j) → (moS R).2 80 d ≠ 5 → CdW (woS τ m σ γ) (moM R) σ.2.2.2.length (40 * moM R + j) ((woV (woS τ m σ γ) c).2.1) → lokS R I (fun s => w (2 + s)) d = ccW (trS σ) w c := fun j j1 j2 n5 cdw => by
      obtain ⟨f, c0, c1, c2, c3, c4, c5, c6⟩ := cdw
      unfold lokS
      rw [if_neg n5, j2, lt32 (by omega), m3]
      have c4 : σ.1.2.1 63 (40 * moM R + j) = Int32.ofNat (410 * moM R + c0) := c4
      have zl := hE.1.2.1.2.2.1 c0 (by rw [hE.1.2.1.2.1]; exact c2)
      show (cvL (fun s => w (2 + s)) (iBf I) σ.2.2.2).getD ((moA R 63 (40 * moM R + j)).toNatClampNeg - 410 * moM R) 0 = lV w ((trS σ).2.2 10 c)
      have c6 : (trS σ).2.2 10 c = Int32.ofNat (γ.2.1.getD c0 0) := c6
      rw [c6, lV_of (by omega), h.cd hb k c2, m4, c4]
      rw [lt32 (by omega), show 410 * moM R + c0 - 410 * moM R = c0 by omega]
    cases g' with
    | zero => unfold RpN at kk; exact kk.elim
    | succ g' =>
      unfold RpN at kk
      obtain ⟨-, kk⟩ := kk
      have no : ∀ {a : Int32}, (woV (woS τ m σ γ) c).1 = a → a ≠ 4 → a ≠ 7 → False := fun {a} e n4 n7 => by
        rcases hk with y | y
        · exact n4 (e.symm.trans y)
        · exact n7 (e.symm.trans y)
      rcases kk with ⟨a, -⟩ | ⟨a, -⟩ | ⟨a, -⟩ | ⟨a, -⟩ | ⟨a, -⟩ | ⟨a, -⟩ | ⟨a, b1, -⟩ | ⟨a, -⟩ | ⟨a, b1, ⟨j, j1, j2, j3⟩, -⟩ | ⟨a, -⟩ | ⟨a, -⟩
      · exact (no a (by decide) (by decide)).elim
      · exact (no a (by decide) (by decide)).elim
      · exact (no a (by decide) (by decide)).elim
      · exact (no a (by decide) (by decide)).elim
      · exact (no a (by decide) (by decide)).elim
      · exact (no a (by decide) (by decide)).elim
      · rcases b1 with ⟨so, j, j1, j2, j3⟩ | ⟨so, j, f, j1, j2, j3, j4, j5⟩
        · have so : (moS R).2 80 d = 4 := so
          exact con j j1 j2 (by rw [so]; decide) j3
        · have so : (moS R).2 80 d = 5 := so
          have j2 : (moS R).2 81 d = Int32.ofNat (40 * moM R + j) := j2
          unfold lokS
          rw [if_pos so, j2, lt32 (by omega), m1, hIf d j f di so j1 (by rw [← m1]; exact j2) j4 j3]
          show ift f = lV w ((trS σ).2.2 10 c)
          have j5 : (trS σ).2.2 10 c = (ifS σ).getD f 0 := j5
          obtain ⟨l, e1, e2, e3, e4⟩ := hE.1.2.2 f j3
          obtain ⟨n, en⟩ : ∃ n, l = 2 * n := ⟨l / 2, by omega⟩
          rw [en] at e1 e3 e4
          rw [show 2 * n / 2 = n by omega] at e3 e4
          have er : roN Ψ2 n = (5, f) := by rw [h.ro (by omega), m6_gd e3, e4, if_neg (show ¬ (5 : Nat) = 6 by decide)]
          have n2 : 2 ≤ n := by
            by_cases z : n < 2
            · rcases h.r2 z with q | q
              · rw [er] at q; exact absurd (show (5 : Nat) = 1 from congrArg Prod.fst q) (by decide)
              · rw [er] at q; exact absurd (show (5 : Nat) = 2 from congrArg Prod.fst q) (by decide)
            · omega
          rw [j5, e1, lV_of (by omega), lv_2, k.2 n (by omega) (by rw [tb_r er n2]; rfl), tv_r er n2, if_neg (by decide), if_neg (by decide), if_pos rfl]
      · exact (no a (by decide) (by decide)).elim
      · have b1 : (moS R).2 80 d = 8 := b1
        exact con j j1 j2 (by rw [b1]; decide) j3
      · exact (no a (by decide) (by decide)).elim
      · exact (no a (by decide) (by decide)).elim
  · have er := h.sg (s := s) (by omega)
    rw [tb_r er (by omega), tv_r er (by omega), if_pos rfl, decide_eq_true t0]
    exact ⟨rfl, rfl⟩
  · have er := h.sg (s := s) (by omega)
    refine ⟨?_, er⟩
    rw [tb_r er (by omega), decide_eq_false t0]
    rfl
  · rw [m3] at hd
    rw [m2]
    exact hX.2.2.2.2.1.2.2.2.2 d hd (by omega)
end
