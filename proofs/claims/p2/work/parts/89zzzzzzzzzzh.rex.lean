/-! the reference's search, exactly: what a MOVE comes to -/
/-- the node y stays set -/
def sNd (R : RMo) (p : Int32) (ρ : Plc → Nat) (y : Nat) : Bool := decide ((moS R).2 80 y = 2 ∧ ρ (3, y, 0) = 0 ∧ (ρ (0, y, 0) = 1 ∨ (ρ (2, y, 0) = 1 ∧ ¬ p &&& moK R y = 0)))
/-- pauses set behind a beat, by the first n nodes -/
def sNw (R : RMo) (p : Int32) (ρ : Plc → Nat) : Nat → Int32
  | 0 => 0
  | n + 1 => if sNd R p ρ (700 * moM R + n) = true then sNw R p ρ n ||| moK R (700 * moM R + n) else sNw R p ρ n
/-- what is shown, by signals -/
def sGn (R : RMo) (ρ : Plc → Nat) : Int32 := shM (fun s => decide (ρ (5, s, 0) = 1)) (moQ R)
/-- the inputs of a MOVE -/
def inC (R : RMo) (il : List Nat) (p b : Int32) (f : Bool) (v : Nat) : RIn := (p, fun s => b01 b s, fun q => b01 (Int32.ofNat v >>> (Int32.ofNat il.length &&& 31)) (ifC R (q - 40 * moM R)), if f = true then 1 else 0, gvI (Int32.ofNat v &&& (((1 : Int32) <<< (Int32.ofNat il.length &&& 31)) - 1)) il)
def ocR (R : RMo) (y : Nat) (p : Int32) (ρ : Plc → Nat) : OcT := some (sGn R ρ, decide (ρ (4, y, 0) = 1), sNw R p ρ (moS R).1)
/-- what a MOVE comes to, by the reference's equations -/
def CorR (R : RMo) (il : List Nat) (y : Nat) : CoT := fun p b f v o => ∃ ρ, JF (FrR R (inC R il p b f v)) ρ ∧ (∀ i, FrR R (inC R il p b f v) ρ i = ρ i) ∧ ((KnR R ρ ∧ o = ocR R y p ρ) ∨ (¬ KnR R ρ ∧ o = none))
theorem lq_an {a b : Nat} (h : lq3 a b) (k : lq3 b a) : a = b := by
  rcases h with h | h
  · rcases k with k | k
    · rw [h, k]
    · exact k.symm
  · exact h
theorem CorR.uq {R : RMo} {il : List Nat} {y : Nat} : UqC (CorR R il y) := by
  intro p b f v o o' ⟨ρ, j1, f1, h1⟩ ⟨ρ', j2, f2, h2⟩
  have e : ρ = ρ' := funext (fun i => lq_an (j1.le FrR_mo f2 i) (j2.le FrR_mo f1 i))
  subst e
  rcases h1 with ⟨k1, h1⟩ | ⟨k1, h1⟩
  · rcases h2 with ⟨-, h2⟩ | ⟨k2, -⟩
    · rw [h1, h2]
    · exact absurd k1 k2
  · rcases h2 with ⟨k2, -⟩ | ⟨-, h2⟩
    · exact absurd k2 k1
    · rw [h1, h2]
section
variable {R : RMo} {I : RIn} {sl : List Nat} {M M' : Mem} {ρ : Plc → Nat} {h : Nat} {p : Int32} {Q : Option Value → Mem → Prop}
theorem R_prNx (hS : RmS R sl M) (F : Fix M) (em : mI M 29 84 = Int32.ofNat (moM R)) (hV : RSv R ρ M) (K : Q (some (.int (sGn R ρ))) M) : E (h + 1) mdX11_presentNow [.ref 29] M Q := by
  have m4 := hS.1.1
  have q16 := hS.1.2.2.1
  have e34 := hS.2.2.2.2.2.2.2.2.2.1
  have main : ∀ d s, s + d = moQ R → T (h + 1) mdX11_presentNow 4 [(0, .ref 29), (1, .int (shM (fun s => decide (ρ (5, s, 0) = 1)) s)), (2, .int (Int32.ofNat s))] [] M Q := by
    intro d
    induction d with
    | zero =>
      intro s hs
      have es : s = moQ R := hs
      subst es
      refine VX11_presentNow_4 ?_
      unfold DX11_presentNow_4
      rw [em, lt32 (show moM R < 2147483648 by omega)]
      refine ⟨ok29 F, 34, rf29_8 F, ok34 F, by rw [ln34 F]; exact vp_of (by omega) (by decide), fun _ => K, fun z => absurd ?_ z⟩
      rw [e34]
      exact Int32.le_rfl
    | succ d ih =>
      intro s hs
      have nx := ih (s + 1) (by omega)
      have e5 : mAI M 100 s = Int32.ofNat (ρ (5, s, 0)) := hV.2.2.2.2 s (by omega)
      have le2 := hV.1 (5, s, 0)
      refine VX11_presentNow_4 ?_
      unfold DX11_presentNow_4 DX11_presentNow_35
      rw [em, lt32 (show moM R < 2147483648 by omega), succ32, lt32 (show s < 2147483648 by omega)]
      refine ⟨ok29 F, 34, rf29_8 F, ok34 F, by rw [ln34 F]; exact vp_of (by omega) (by decide), fun z => ?_, fun _ => ⟨100, rf29_82 F, ok100 F, by rw [ln100 F]; exact vp_of (by omega) (by decide), fun z => ?_, fun z => ?_⟩⟩
      · rw [e34] at z
        have := (le32 (by omega) (by omega)).mp z
        omega
      · have ne : ¬ decide (ρ (5, s, 0) = 1) = true := by
          rw [decide_eq_true_eq]
          intro y
          exact z (by rw [e5, y]; rfl)
        have e : shM (fun s => decide (ρ (5, s, 0) = 1)) (s + 1) = shM (fun s => decide (ρ (5, s, 0) = 1)) s ||| 0 := by
          show (if decide (ρ (5, s, 0) = 1) = true then _ else _) = _
          rw [if_neg ne, Int32.or_zero]
        rw [← e]; exact nx
      · have y : decide (ρ (5, s, 0) = 1) = true := by
          rw [decide_eq_true_eq]
          rw [e5] at z
          exact inj32 (by omega) (by decide) z
        have e : shM (fun s => decide (ρ (5, s, 0) = 1)) (s + 1) = shM (fun s => decide (ρ (5, s, 0) = 1)) s ||| ((1 : Int32) <<< (Int32.ofNat s &&& 31)) := by
          show (if decide (ρ (5, s, 0) = 1) = true then _ else _) = _
          rw [if_pos y]
        rw [← e]; exact nx
  refine KX11_presentNow ?_
  unfold DX11_presentNow_0
  exact main (moQ R) 0 (by omega)
theorem R_stNx (hS : RmS R sl M) (F : Fix M) (em : mI M 29 84 = Int32.ofNat (moM R)) (ep : mI M 29 85 = p) (hV : RSv R ρ M) (K : Q (some (.int (sNw R p ρ (moS R).1))) M) : E (h + 1) mdX11_setNow [.ref 29] M Q := by
  have m4 := hS.1.1
  have e79 := hS.2.2.2.2.2.1
  have s7 : (moS R).1 ≤ 700 := hS.1.2.1.1.2
  have e700 : 700 * Int32.ofNat (moM R) = Int32.ofNat (700 * moM R) := by rw [Int32.ofNat_mul]; rfl
  have e7s : Int32.ofNat (700 * moM R) + Int32.ofNat (moS R).1 = Int32.ofNat (700 * moM R + (moS R).1) := (Int32.ofNat_add _ _).symm
  have main : ∀ d n, n + d = (moS R).1 → T (h + 1) mdX11_setNow 11 [(0, .ref 29), (1, .int (sNw R p ρ n)), (2, .int (Int32.ofNat (700 * moM R + n)))] [] M Q := by
    intro d
    induction d with
    | zero =>
      intro n hn
      have en : n = (moS R).1 := hn
      subst en
      refine VX11_setNow_11 ?_
      unfold DX11_setNow_11
      rw [em, lt32 (show moM R < 2147483648 by omega)]
      refine ⟨ok29 F, 79, rf29_61 F, ok79 F, by rw [ln79 F]; exact vp_of (by omega) (by decide), fun _ => K, fun z => absurd ?_ z⟩
      rw [e79, e700, e7s]
      exact Int32.le_rfl
    | succ d ih =>
      intro n hn
      have nx := ih (n + 1) (by omega)
      obtain ⟨y, ey⟩ : ∃ y, y = 700 * moM R + n := ⟨_, rfl⟩
      have hy : inR R y := by unfold inR; omega
      have v28 : ∀ {k : Nat}, k = 2800 → vp_in (Int32.ofNat y) k := fun e => by rw [e]; exact vp_of (by omega) (by decide)
      have v7 : ∀ {k : Nat}, k = 700 → vp_in (Int32.ofNat (y - 700 * moM R)) k := fun e => by rw [e]; exact vp_of (by omega) (by decide)
      have ly : (Int32.ofNat y).toNatClampNeg = y := lt32 (by omega)
      have l7 : (Int32.ofNat (y - 700 * moM R)).toNatClampNeg = y - 700 * moM R := lt32 (by omega)
      have e80 : mAI M 80 y = (moS R).2 80 y := hS.2.1 80 y (by decide) (by decide) hy
      have e87 : mAI M 87 y = moK R y := (hS.2.2.1 y hy).1
      have ec : ∀ c, c ≤ 3 → mAI M (95 + c) (y - 700 * moM R) = Int32.ofNat (ρ (c, y, 0)) ∧ ρ (c, y, 0) ≤ 2 := fun c hc => ⟨hV.2.2.1 c y hc hy, hV.1 _⟩
      have e0 := ec 0 (by decide)
      have e2 := ec 2 (by decide)
      have e3 := ec 3 (by decide)
      have i1 : ∀ {q : Nat}, q ≤ 2 → Int32.ofNat q = 1 → q = 1 := fun hq e => inj32 (by omega) (by decide) (e.trans (show (1 : Int32) = Int32.ofNat 1 from rfl))
      have i0 : ∀ {q : Nat}, q ≤ 2 → Int32.ofNat q = 0 → q = 0 := fun hq e => inj32 (by omega) (by decide) (e.trans (show (0 : Int32) = Int32.ofNat 0 from rfl))
      -- it stays, or not
      have f118 : ¬ sNd R p ρ y = true → DX11_setNow_118 h 29 (sNw R p ρ n) (Int32.ofNat y) M Q := fun no => by
        unfold DX11_setNow_118
        have e : sNw R p ρ (n + 1) = sNw R p ρ n := by
          show (if sNd R p ρ (700 * moM R + n) = true then _ else _) = _
          rw [← ey, if_neg no]
        rw [succ32, ← e, ey, show 700 * moM R + n + 1 = 700 * moM R + (n + 1) by omega]
        exact nx
      have f109 : sNd R p ρ y = true → DX11_setNow_109 h 29 (sNw R p ρ n) (Int32.ofNat y) M Q := fun yes => by
        unfold DX11_setNow_109 DX11_setNow_118
        have e : sNw R p ρ (n + 1) = sNw R p ρ n ||| moK R y := by
          show (if sNd R p ρ (700 * moM R + n) = true then _ ||| moK R (700 * moM R + n) else _) = _
          rw [← ey, if_pos yes]
        refine ⟨ok29 F, 87, rf29_69 F, ok87 F, v28 (ln87 F), ?_⟩
        rw [ly, e87, ← e, succ32, ey, show 700 * moM R + n + 1 = 700 * moM R + (n + 1) by omega]
        exact nx
      have sd : sNd R p ρ y = true ↔ ((moS R).2 80 y = 2 ∧ ρ (3, y, 0) = 0 ∧ (ρ (0, y, 0) = 1 ∨ (ρ (2, y, 0) = 1 ∧ ¬ p &&& moK R y = 0))) := by unfold sNd; rw [decide_eq_true_eq]
      have f73 : ∀ b : Int32, (b = 0 ↔ ¬ (ρ (2, y, 0) = 1 ∧ ¬ p &&& moK R y = 0)) → DX11_setNow_73 h 29 (sNw R p ρ n) (Int32.ofNat y) (Int32.ofNat (y - 700 * moM R)) b M Q := fun b hb => by
        unfold DX11_setNow_73
        rw [ly, l7]
        refine ⟨ok29 F, 80, rf29_62 F, ok80 F, v28 (ln80 F), fun z => f118 (fun w => z (by rw [e80]; exact (sd.mp w).1)), fun z => ⟨98, rf29_80 F, ok98 F, v7 (ln98 F), fun z2 => f118 (fun w => z2 ?_), fun z2 => ⟨95, rf29_77 F, ok95 F, v7 (ln95 F), fun z3 => f109 (sd.mpr ⟨by rw [← e80]; exact z, i0 e3.2 (by rw [← e3.1]; exact z2), Or.inl (i1 e0.2 (by rw [← e0.1]; exact z3))⟩), fun z3 => ⟨fun z4 => f118 (fun w => ?_), fun z4 => f109 (sd.mpr ⟨by rw [← e80]; exact z, i0 e3.2 (by rw [← e3.1]; exact z2), Or.inr ?_⟩)⟩⟩⟩⟩
        · have e3' : mAI M 98 (y - 700 * moM R) = Int32.ofNat (ρ (3, y, 0)) := e3.1
          rw [e3', (sd.mp w).2.1]; rfl
        · have e0' : mAI M 95 (y - 700 * moM R) = Int32.ofNat (ρ (0, y, 0)) := e0.1
          rcases (sd.mp w).2.2 with q | q
          · exact z3 (by rw [e0', q]; rfl)
          · exact hb.mp z4 q
        · exact Classical.byContradiction (fun w => z4 (hb.mpr w))
      refine VX11_setNow_11 ?_
      unfold DX11_setNow_11 DX11_setNow_72
      rw [← ey, em, lt32 (show moM R < 2147483648 by omega), ix700 (by omega) (by omega), ep, ly, l7]
      have e2' : mAI M 97 (y - 700 * moM R) = Int32.ofNat (ρ (2, y, 0)) := e2.1
      refine ⟨ok29 F, 79, rf29_61 F, ok79 F, by rw [ln79 F]; exact vp_of (by omega) (by decide), fun z => ?_, fun _ => ⟨97, rf29_79 F, ok97 F, v7 (ln97 F), fun z => f73 0 ⟨fun _ w => z (by rw [e2', w.1]; rfl), fun _ => rfl⟩, fun z => ⟨87, rf29_69 F, ok87 F, v28 (ln87 F), fun z2 => f73 0 ⟨fun _ w => w.2 (by rw [← e87]; exact z2), fun _ => rfl⟩, fun z2 => f73 1 ⟨fun w => absurd w (by decide), fun w => absurd ⟨i1 e2.2 (by rw [← e2']; exact z), by rw [← e87]; exact z2⟩ w⟩⟩⟩⟩
      rw [e79, e700, e7s] at z
      have := (le32 (by omega) (by omega)).mp z
      omega
  refine KX11_setNow ?_
  unfold DX11_setNow_0
  rw [em, e700]
  exact ⟨ok29 F, main (moS R).1 0 (by omega)⟩
end
/-! the reference's move1, exactly -/
/-- what the rows say of k MOVES -/
def TiR (M : Mem) (m t : Nat) (Y : XsT) (k : Nat) : Prop := (∀ s, s < Y.1.length → mAI M 124 (48 * m + s) = (stX Y s).1 ∧ mAI M 125 (48 * m + s) = (stX Y s).2.1) ∧ (∀ s, 1 ≤ s → s < Y.1.length → mAI M 126 (48 * m + s) = Int32.ofNat (stX Y s).2.2.1 ∧ mAI M 127 (48 * m + s) = Int32.ofNat (stX Y s).2.2.2) ∧ ∀ s v, s < 48 → v < 2 ^ t → s * 2 ^ t + v < k → mAI M 129 (32 * (48 * m + s) + v) = Y.2.1 s v ∧ mAI M 130 (32 * (48 * m + s) + v) = Y.2.2 s v
theorem mv_inj {w s v s' v' : Nat} (hv : v < w) (hv' : v' < w) (e : s' * w + v' = s * w + v) : s' = s ∧ v' = v := by
  rcases Nat.lt_trichotomy s' s with z | z | z
  · have : (s' + 1) * w ≤ s * w := Nat.mul_le_mul_right _ z
    rw [Nat.succ_mul] at this
    omega
  · subst z; exact ⟨rfl, by omega⟩
  · have : (s + 1) * w ≤ s' * w := Nat.mul_le_mul_right _ z
    rw [Nat.succ_mul] at this
    omega
theorem stX_l {L : List SqT} {q : SqT} {a b : Nat → Nat → Int32} {s : Nat} (hs : s < L.length) : stX (L ++ [q], a, b) s = L.getD s sq0 := by
  show (L ++ [q]).getD s sq0 = _
  rw [List.getD_eq_getElem?_getD, List.getElem?_append_left hs, ← List.getD_eq_getElem?_getD]
theorem stX_r {L : List SqT} {q : SqT} {a b : Nat → Nat → Int32} : stX (L ++ [q], a, b) L.length = q := by
  show (L ++ [q]).getD L.length sq0 = _
  rw [List.getD_eq_getElem?_getD, List.getElem?_append_right (Nat.le_refl _), Nat.sub_self]
  rfl
section
variable {M M1 M' : Mem} {m t s v k at0 : Nat} {Y : XsT} {d w : Int32}
/-- leads and shows of one MOVE more -/
theorem TiR.pt (hT : TiR M m t Y (s * 2 ^ t + v)) (hs : s < 48) (hv : v < 2 ^ t) (t5 : t ≤ 5) (ha : at0 = 32 * (48 * m + s) + v) (r : ∀ c, 124 ≤ c → c ≤ 127 → mAI M' c = mAI M c) (e1 : ∀ j, mAI M' 129 j = if j = at0 then d else mAI M 129 j) (e2 : ∀ j, mAI M' 130 j = if j = at0 then w else mAI M 130 j) : TiR M' m t (Y.1, pt2 Y.2.1 s v d, pt2 Y.2.2 s v w) (s * 2 ^ t + v + 1) := by
  obtain ⟨a, b, c⟩ := hT
  obtain ⟨p1, p2⟩ := pw_le t5
  refine ⟨fun q hq => by rw [r 124 (by decide) (by decide), r 125 (by decide) (by decide)]; exact a q hq, fun q h1 h2 => by rw [r 126 (by decide) (by decide), r 127 (by decide) (by decide)]; exact b q h1 h2, fun s' v' hs' hv' hk => ?_⟩
  show mAI M' 129 (32 * (48 * m + s') + v') = pt2 Y.2.1 s v d s' v' ∧ mAI M' 130 (32 * (48 * m + s') + v') = pt2 Y.2.2 s v w s' v'
  unfold pt2
  rw [e1, e2]
  by_cases z : s' = s ∧ v' = v
  · have ea : 32 * (48 * m + s') + v' = at0 := by rw [ha, z.1, z.2]
    rw [if_pos ea, if_pos ea, if_pos z, if_pos z]
    exact ⟨rfl, rfl⟩
  · have ne : ¬ 32 * (48 * m + s') + v' = at0 := fun y => z (by omega)
    rw [if_neg ne, if_neg ne, if_neg z, if_neg z]
    refine c s' v' hs' hv' ?_
    rcases Nat.lt_or_ge (s' * 2 ^ t + v') (s * 2 ^ t + v) with y | y
    · exact y
    · exact absurd (mv_inj hv hv' (by omega)) z
/-- a STATE more -/
theorem TiR.nw {p b : Int32} (hT : TiR M m t Y k) (l48 : Y.1.length < 48) (e4 : ∀ j, mAI M' 124 j = if j = 48 * m + Y.1.length then p else mAI M 124 j) (e5 : ∀ j, mAI M' 125 j = if j = 48 * m + Y.1.length then b else mAI M 125 j) (e6 : ∀ j, mAI M' 126 j = if j = 48 * m + Y.1.length then Int32.ofNat s else mAI M 126 j) (e7 : ∀ j, mAI M' 127 j = if j = 48 * m + Y.1.length then Int32.ofNat v else mAI M 127 j) (r9 : mAI M' 129 = mAI M 129) (r0 : mAI M' 130 = mAI M 130) : TiR M' m t (Y.1 ++ [(p, b, s, v)], Y.2.1, Y.2.2) k := by
  obtain ⟨a, c, d⟩ := hT
  have ln : (Y.1 ++ [(p, b, s, v)]).length = Y.1.length + 1 := by rw [List.length_append]; rfl
  refine ⟨fun q hq => ?_, fun q h1 hq => ?_, fun s' v' hs' hv' hk => by rw [r9, r0]; exact d s' v' hs' hv' hk⟩
  · have hq : q < (Y.1 ++ [(p, b, s, v)]).length := hq
    rw [e4, e5]
    by_cases z : q = Y.1.length
    · rw [z, if_pos rfl, if_pos rfl, stX_r]; exact ⟨rfl, rfl⟩
    · rw [if_neg (by omega), if_neg (by omega), stX_l (by omega)]; exact a q (by omega)
  · have hq : q < (Y.1 ++ [(p, b, s, v)]).length := hq
    rw [e6, e7]
    by_cases z : q = Y.1.length
    · rw [z, if_pos rfl, if_pos rfl, stX_r]; exact ⟨rfl, rfl⟩
    · rw [if_neg (by omega), if_neg (by omega), stX_l (by omega)]; exact c q h1 (by omega)
theorem TiR.rw (hT : TiR M m t Y k) (r : ∀ c, 124 ≤ c → c ≤ 130 → c ≠ 128 → mAI M' c = mAI M c) : TiR M' m t Y k := by
  unfold TiR at hT ⊢
  rw [r 124 (by decide) (by decide) (by decide), r 125 (by decide) (by decide) (by decide), r 126 (by decide) (by decide) (by decide), r 127 (by decide) (by decide) (by decide), r 129 (by decide) (by decide) (by decide), r 130 (by decide) (by decide) (by decide)]
  exact hT
theorem wr_j {c k : Nat} {x : Int32} (e : M' = wAI M c k x) : ∀ j, mAI M' c j = if j = k then x else mAI M c j := fun j => by
  rw [e, mAI_wAI]
  by_cases z : j = k
  · rw [if_pos ⟨rfl, z⟩, if_pos z]
  · rw [if_neg (fun y => z y.2), if_neg z]
end
section
variable {M M1 M' : Mem} {s v h t y : Nat} {Q : Option Value → Mem → Prop} {R : RMo} {sl il : List Nat} {X : List Nd} {np : Nat} {a : Int32} {Y : XsT}
theorem inM_c {p b : Int32} {f : Bool} (e5 : mI M 29 85 = p) (e6 : mI M 29 86 = b) (e7 : mI M 29 87 = Int32.ofNat v &&& (((1 : Int32) <<< (Int32.ofNat il.length &&& 31)) - 1)) (e8 : mI M 29 88 = Int32.ofNat v >>> (Int32.ofNat il.length &&& 31)) (e9 : mI M 29 89 = if f = true then 1 else 0) : inM R il M = inC R il p b f v := by
  unfold inM inC
  rw [e5, e6, e7, e8, e9]
  cases f <;> rfl
theorem R_mv1x (hB : RbM R sl il X np M) (F : Fix M) (em : mI M 29 84 = Int32.ofNat (moM R)) (hr : SrI M (moM R) Y.1.length) (hL : LdO M) (hs : s < Y.1.length) (t5 : t ≤ 5) (hv : v < 2 ^ t) (e1 : mAI M 122 (moM R) = 1) (hy : inR R y) (ey0 : mAI M 91 (moM R) = Int32.ofNat y) (hX : TiR M (moM R) t Y (s * 2 ^ t + v)) (K : ∀ M' o, SkF (moM R) M M' → CorR R il y (stX Y s).1 (stX Y s).2.1 (decide (s = 0)) v o → SrI M' (moM R) (stpX a Y s v o).1.1.length → LdO M' → mI M' 29 84 = Int32.ofNat (moM R) → mAI M' 122 (moM R) = (if (stpX a Y s v o).2 = true then 2 else 1) → ((stpX a Y s v o).2 = false → TiR M' (moM R) t (stpX a Y s v o).1 (s * 2 ^ t + v + 1)) → Q none M') : E (h + 6) mdX11_move1 [.ref 29, .int (Int32.ofNat (moM R)), .int (Int32.ofNat s), .int (Int32.ofNat v), .int a] M Q := by
  have m4 : moM R < 4 := hB.1.1.1
  have n48 : Y.1.length ≤ 48 := hr.2.1.2
  obtain ⟨n, en⟩ : ∃ n, n = Y.1.length := ⟨_, rfl⟩
  have hr0 : SrI M (moM R) n := by rw [en]; exact hr
  obtain ⟨p1, p2⟩ := pw_le t5
  have v32 : v < 32 := by omega
  have lm : (Int32.ofNat (moM R)).toNatClampNeg = moM R := lt32 (by omega)
  have e48 : 48 * Int32.ofNat (moM R) + Int32.ofNat s = Int32.ofNat (48 * moM R + s) := by rw [Int32.ofNat_add, Int32.ofNat_mul]; rfl
  have l48 : (Int32.ofNat (48 * moM R + s)).toNatClampNeg = 48 * moM R + s := lt32 (by omega)
  have eat : 32 * Int32.ofNat (48 * moM R + s) + Int32.ofNat v = Int32.ofNat (32 * (48 * moM R + s) + v) := ix32
  have vm : ∀ {k : Nat}, k = 4 → vp_in (Int32.ofNat (moM R)) k := fun e => by rw [e]; exact vp_of (by omega) (by decide)
  have v48 : ∀ {k : Nat}, k = 192 → vp_in (Int32.ofNat (48 * moM R + s)) k := fun e => by rw [e]; exact vp_of (by omega) (by decide)
  obtain ⟨at0, hat⟩ : ∃ at0, at0 = 32 * (48 * moM R + s) + v := ⟨_, rfl⟩
  have at1 : 1536 * moM R ≤ at0 ∧ at0 < 1536 * moM R + 1536 := by omega
  have vat : ∀ {k : Nat}, k = 6144 → vp_in (Int32.ofNat at0) k := fun e => by rw [e]; exact vp_of (by omega) (by decide)
  have lat : (Int32.ofNat at0).toNatClampNeg = at0 := lt32 (by omega)
  obtain ⟨e35, -⟩ := hB.2.2.1.1
  have body : ∀ f : Bool, f = decide (s = 0) → ∀ w : Int32, w = (if f = true then 1 else 0) → ∀ M13, SkF (moM R) M M13 → mI M13 29 84 = Int32.ofNat (moM R) → mAI M13 = mAI M → mI M13 29 85 = (stX Y s).1 → mI M13 29 86 = (stX Y s).2.1 → mI M13 29 87 = Int32.ofNat v &&& (((1 : Int32) <<< (Int32.ofNat il.length &&& 31)) - 1) → mI M13 29 88 = Int32.ofNat v >>> (Int32.ofNat il.length &&& 31) → DX11_move1_81 (h + 5) 29 (Int32.ofNat (moM R)) (Int32.ofNat s) (Int32.ofNat v) a (Int32.ofNat at0) 29 w M13 Q := by
    intro f hf w hw M13 k13 e13 r13 g5 g6 g7 g8
    have F13 := k13.fix F
    unfold DX11_move1_81 DX11_move1_277
    have hw01 : w = 0 ∨ w = 1 := by
      rw [hw]
      cases f with
      | true => exact Or.inr rfl
      | false => exact Or.inl rfl
    refine ⟨ok29 F13, hw01, fun M2 e2 => ?_⟩
    have k2 : SkF (moM R) M M2 := k13.tr (SkF.i (by omega) e2)
    have F2 := k2.fix F
    have B2 := hB.sk k2
    have i2 : ∀ f, f ≠ 89 → mI M2 29 f = mI M13 29 f := fun f hf => by rw [e2, mI_wI, if_neg (fun y => hf y.2)]
    have em2 : mI M2 29 84 = Int32.ofNat (moM R) := by rw [i2 84 (by decide)]; exact e13
    have r2 : mAI M2 = mAI M := by rw [e2]; exact r13
    have eI : inM R il M2 = inC R il (stX Y s).1 (stX Y s).2.1 f v := inM_c (by rw [i2 85 (by decide)]; exact g5) (by rw [i2 86 (by decide)]; exact g6) (by rw [i2 87 (by decide)]; exact g7) (by rw [i2 88 (by decide)]; exact g8) (by rw [e2, mI_wI, if_pos ⟨rfl, rfl⟩]; exact hw)
    obtain ⟨hI, hbf⟩ := inM_b (il := il) F2 em2
    obtain ⟨g1, g2, g3, g4, g5'⟩ := B2.2.2.1
    obtain ⟨n1, n2, n3, n4⟩ := B2.2.1
    refine ⟨ok29 F2, R_solve (h := h) hI hbf B2.1 n1 n2 n3 n4 (inM_l g1 g2 g3 g4 g5') (fun ρ M4 r5 k4 V4 jF fx hkn _ => ⟨r5, rfl, fun nz => ?_, fun z0 => ?_⟩)⟩
    · have kn : KnR R ρ := by
        rcases hkn with ⟨-, q⟩ | ⟨q, -⟩
        · exact q
        · exact absurd q nz
      have k4' : SkF (moM R) M M4 := k2.tr (SkF.rb k4)
      have F4 := k4'.fix F
      have B4 := hB.sk k4'
      have i4 : ∀ f, 84 ≤ f → f ≤ 89 → mI M4 29 f = mI M2 29 f := fun f h1 h2 => k4.2.2.2.1 f (by omega)
      have em4 : mI M4 29 84 = Int32.ofNat (moM R) := by rw [i4 84 (by decide) (by decide)]; exact em2
      have r4 : ∀ c, 102 ≤ c → mAI M4 c = mAI M c := fun c hc => by rw [k4.2.2.2.2 c (fun y => by omega), r2]
      have cor : CorR R il y (stX Y s).1 (stX Y s).2.1 (decide (s = 0)) v (ocR R y (stX Y s).1 ρ) := by
        rw [eI, hf] at jF fx
        exact ⟨ρ, jF, fx, Or.inl ⟨kn, rfl⟩⟩
      refine ⟨130, rf29_122 F4, R_prNx (h := h + 4) B4.1 F4 em4 V4 (fun _ => ⟨_, rfl, ok130 F4, vat (ln130 F4), fun M10 e10 => ?_⟩)⟩
      rw [lat] at e10
      have k10 : SkF (moM R) M M10 := k4'.tr (SkF.ai (c := 130) (k := at0) (by unfold skA; omega) e10)
      have F10 := k10.fix F
      have B10 := hB.sk k10
      have em10 : mI M10 29 84 = Int32.ofNat (moM R) := by rw [e10]; exact em4
      have ep10 : mI M10 29 85 = (stX Y s).1 := by rw [e10]; show mI M4 29 85 = _; rw [i4 85 (by decide) (by decide), i2 85 (by decide)]; exact g5
      have r10 : ∀ c, 102 ≤ c → c ≠ 130 → mAI M10 c = mAI M c := fun c hc hc2 => by rw [e10]; exact (up2_row hc2).trans (r4 c hc)
      have w10 : ∀ j, mAI M10 130 j = if j = at0 then sGn R ρ else mAI M 130 j := fun j => by rw [wr_j e10 j, r4 130 (by decide)]
      have q10 : ∀ c, c ≤ 101 → mAI M10 c = mAI M4 c := fun c hc => by rw [e10]; exact up2_row (by omega)
      have V10 : RSv R ρ M10 := by
        obtain ⟨a1, a2, a3, a4, a5⟩ := V4
        exact ⟨a1, a2, fun c y hc hy => by rw [q10 (95 + c) (by omega)]; exact a3 c y hc hy, fun y n hy hn => by rw [q10 99 (by decide)]; exact a4 y n hy hn, fun s hs => by rw [q10 100 (by decide)]; exact a5 s hs⟩
      have hr10 : SrI M10 (moM R) n := hr0.k (r10 123 (by decide) (by decide)) (r10 126 (by decide) (by decide))
      have hL10 : LdO M10 := hL.k (r10 129 (by decide) (by decide))
      have e122 : mAI M10 122 (moM R) = 1 := by rw [r10 122 (by decide) (by decide)]; exact e1
      have ey : mAI M10 91 (moM R) = Int32.ofNat y := by rw [k10.row (Or.inl (by decide))]; exact ey0
      rw [em10, lm]
      refine ⟨91, rf29_73 F10, ok91 F10, vm (ln91 F10), ?_⟩
      rw [ey]
      have y2 := V10.1 (4, y, 0)
      refine R_k (h := h + 4) (n := 0) B10.1 (inM_b (il := il) F10 em10).1 V10 hy (by have := B10.1.1.2.2.2.1; omega) (fun _ => ⟨_, rfl, fun nk => ?_, fun yk => ?_⟩)
      · -- it goes on
        have nd : decide (ρ (4, y, 0) = 1) = false := by
          rw [decide_eq_false_iff_not]
          intro q
          exact nk (by rw [q]; rfl)
        have eo : ocR R y (stX Y s).1 ρ = some (sGn R ρ, false, sNw R (stX Y s).1 ρ (moS R).1) := by unfold ocR; rw [nd]
        rw [eo] at cor
        obtain ⟨pp, hpp⟩ : ∃ pp, pp = sNw R (stX Y s).1 ρ (moS R).1 := ⟨_, rfl⟩
        rw [← hpp] at cor
        refine R_stNx (h := h + 4) B10.1 F10 em10 ep10 V10 (fun _ => ⟨_, rfl, 130, rf29_122 F10, ok130 F10, vat (ln130 F10), ?_⟩)
        rw [← hpp, lat, show mAI M10 130 at0 = sGn R ρ from by rw [w10 at0, if_pos rfl]]
        have q124 : ∀ q, q < n → mAI M10 124 (48 * moM R + q) = (Y.1.getD q sq0).1 ∧ mAI M10 125 (48 * moM R + q) = (Y.1.getD q sq0).2.1 := fun q hq => by
          rw [r10 124 (by decide) (by decide), r10 125 (by decide) (by decide)]
          exact hX.1 q (by omega)
        -- a MOVE that leads to STATE q
        have fin : ∀ q M5 n', q < 48 → SkF (moM R) M M5 → SrI M5 (moM R) n' → n' = (stpX a Y s v (some (sGn R ρ, false, pp))).1.1.length → (stpX a Y s v (some (sGn R ρ, false, pp))).2 = false → LdO M5 → mI M5 29 84 = Int32.ofNat (moM R) → mAI M5 122 (moM R) = 1 → (∀ M6, (∀ c, 124 ≤ c → c ≤ 130 → c ≠ 129 → mAI M6 c = mAI M5 c) → (∀ j, mAI M6 129 j = if j = at0 then Int32.ofNat q else mAI M5 129 j) → TiR M6 (moM R) t (stpX a Y s v (some (sGn R ρ, false, pp))).1 (s * 2 ^ t + v + 1)) → ∀ z : Int32, z = Int32.ofNat q → ok M5 29 13 ∧ ∃ b2, mR M5 29 121 = some b2 ∧ ok M5 b2 21 ∧ vp_in (Int32.ofNat at0) (mL M5 b2) ∧ ∀ M4, M4 = wAI M5 b2 at0 z → Q none M4 := by
          intro q M5 n' hq k5 hr5 hn5 hf5 hL5 em5 e5 hT5 z ez
          have F5 := k5.fix F
          refine ⟨ok29 F5, 129, rf29_121 F5, ok129 F5, vat (ln129 F5), fun M6 e6 => ?_⟩
          refine K M6 _ (k5.tr (SkF.ai (c := 129) (k := at0) (by unfold skA; omega) e6)) cor (by rw [← hn5]; exact hr5.k (aiN e6 (by decide)) (aiN e6 (by decide))) (hL5.ai (Or.inr ⟨q, hq, ez⟩) e6) (by rw [e6]; exact em5) ?_ (fun _ => hT5 M6 (fun c _ _ h3 => aiN e6 h3) (fun j => by rw [wr_j e6 j, ez]))
          rw [hf5, if_neg (by decide), e6, mAI_wAI, if_neg (fun y => absurd y.1 (by decide))]; exact e5
        refine R_stO (h := h + 4) F10 m4 hr10.1 (by omega) (fun q q1 q2 m1 m2 mn _ => ⟨Int32.ofNat q, rfl, fun _ => ?_, fun z => ?_⟩) (fun mn _ => ⟨-1, rfl, fun z => absurd rfl z, fun _ => ?_⟩)
        · have fd : fdX Y.1 pp (sGn R ρ &&& a) = some q := fdX_of q1 (by omega) (by rw [← (q124 q q2).1]; exact m1) (by rw [← (q124 q q2).2]; exact m2) (fun r h1 h2 hh => mn r h1 h2 (by rw [(q124 r (by omega)).1, (q124 r (by omega)).2]; exact hh))
          have es : stpX a Y s v (some (sGn R ρ, false, pp)) = ((Y.1, pt2 Y.2.1 s v (Int32.ofNat q), pt2 Y.2.2 s v (sGn R ρ)), false) := stp_f fd
          refine fin q M10 n (by omega) k10 hr10 (by rw [es]; exact en) (by rw [es]) hL10 em10 e122 (fun M6 r6 w6 => ?_) _ rfl
          rw [es]
          exact hX.pt (M' := M6) (by omega) hv t5 hat (fun c h1 h2 => by rw [r6 c h1 (by omega) (by omega), r10 c (by omega) (by omega)]) (fun j => by rw [w6 j, r10 129 (by decide) (by decide)]) (fun j => by rw [r6 130 (by decide) (by decide) (by decide)]; exact w10 j)
        · exact absurd z (oi_ne (k := q) (by omega))
        · have fd : fdX Y.1 pp (sGn R ρ &&& a) = none := fdX_no (fun r h1 h2 hh => mn r h1 (by omega) (by rw [(q124 r (by omega)).1, (q124 r (by omega)).2]; exact hh))
          refine ⟨123, rf29_115 F10, ok123 F10, vm (ln123 F10), fun z => ?_, fun z => ?_⟩
          · have nlt : n < 48 := by
              rcases Nat.lt_or_ge n 48 with y | y
              · exact y
              · exact absurd (by rw [hr10.1, show n = 48 by omega]; rfl) z
            have es : stpX a Y s v (some (sGn R ρ, false, pp)) = ((Y.1 ++ [(pp, sGn R ρ &&& a, s, v)], pt2 Y.2.1 s v (Int32.ofNat Y.1.length), pt2 Y.2.2 s v (sGn R ρ)), false) := stp_g fd (by omega)
            have e48n : 48 * Int32.ofNat (moM R) + Int32.ofNat n = Int32.ofNat (48 * moM R + n) := by rw [Int32.ofNat_add, Int32.ofNat_mul]; rfl
            have v48n : ∀ {k : Nat}, k = 192 → vp_in (Int32.ofNat (48 * moM R + n)) k := fun e => by rw [e]; exact vp_of (by omega) (by decide)
            have l48n : (Int32.ofNat (48 * moM R + n)).toNatClampNeg = 48 * moM R + n := lt32 (by omega)
            refine ⟨123, rf29_115 F10, ok123 F10, vm (ln123 F10), 123, rf29_115 F10, ok123 F10, vm (ln123 F10), vm (ln123 F10), fun M27 e27 => ?_⟩
            rw [hr10.1, succ32] at e27
            rw [hr10.1, e48n]
            have k27 : SkF (moM R) M M27 := k10.tr (SkF.ai (c := 123) (k := moM R) (by unfold skA; omega) e27)
            have F27 := k27.fix F
            refine ⟨124, rf29_116 F27, ok124 F27, v48n (ln124 F27), fun M30 e30 => ?_⟩
            rw [l48n] at e30
            have k30 : SkF (moM R) M M30 := k27.tr (SkF.ai (c := 124) (k := 48 * moM R + n) (by unfold skA; omega) e30)
            have F30 := k30.fix F
            have x30 : mAI M30 130 at0 = sGn R ρ := by rw [aiN e30 (by decide), aiN e27 (by decide), w10 at0, if_pos rfl]
            refine ⟨125, rf29_117 F30, 130, rf29_122 F30, ok130 F30, vat (ln130 F30), ok125 F30, v48n (ln125 F30), fun M35 e35' => ?_⟩
            rw [l48n, x30] at e35'
            have k35 : SkF (moM R) M M35 := k30.tr (SkF.ai (c := 125) (k := 48 * moM R + n) (by unfold skA; omega) e35')
            have F35 := k35.fix F
            refine ⟨126, rf29_118 F35, ok126 F35, v48n (ln126 F35), fun M38 e38 => ?_⟩
            rw [l48n] at e38
            have k38 : SkF (moM R) M M38 := k35.tr (SkF.ai (c := 126) (k := 48 * moM R + n) (by unfold skA; omega) e38)
            have F38 := k38.fix F
            refine ⟨127, rf29_119 F38, ok127 F38, v48n (ln127 F38), fun M41 e41 => ?_⟩
            rw [l48n] at e41
            have k41 : SkF (moM R) M M41 := k38.tr (SkF.ai (c := 127) (k := 48 * moM R + n) (by unfold skA; omega) e41)
            have hr38 : SrI M38 (moM R) (n + 1) := hr10.nw (v := 0) nlt (by omega) (by rw [e27]; rfl) ⟨(aiN e35' (by decide)).trans (aiN e30 (by decide)), (aiN e35' (by decide)).trans (aiN e30 (by decide))⟩ e38
            have r41' : ∀ c, c = 129 ∨ c = 122 ∨ c = 130 → mAI M41 c = mAI M10 c := fun c hc => (aiN e41 (by omega)).trans ((aiN e38 (by omega)).trans ((aiN e35' (by omega)).trans ((aiN e30 (by omega)).trans (aiN e27 (by omega)))))
            refine fin n M41 (n + 1) nlt k41 (hr38.k (aiN e41 (by decide)) (aiN e41 (by decide))) (by rw [es]; show n + 1 = (Y.1 ++ [(pp, sGn R ρ &&& a, s, v)]).length; rw [List.length_append, en]; rfl) (by rw [es]) (hL10.k (r41' 129 (Or.inl rfl))) (by rw [e41, e38, e35', e30, e27]; exact em10) (by rw [r41' 122 (Or.inr (Or.inl rfl))]; exact e122) (fun M6 r6 w6 => ?_) _ rfl
            rw [es]
            have T6 : TiR M6 (moM R) t (Y.1, pt2 Y.2.1 s v (Int32.ofNat n), pt2 Y.2.2 s v (sGn R ρ)) (s * 2 ^ t + v + 1) → True := fun _ => trivial
            clear T6
            -- first the leads, then the STATE
            have T10 : TiR (wAI M10 129 at0 (Int32.ofNat n)) (moM R) t (Y.1, pt2 Y.2.1 s v (Int32.ofNat n), pt2 Y.2.2 s v (sGn R ρ)) (s * 2 ^ t + v + 1) := hX.pt (by omega) hv t5 hat (fun c h1 h2 => by rw [mAI_wAI_ne (by omega), r10 c (by omega) (by omega)]) (fun j => by rw [wr_j rfl j, r10 129 (by decide) (by decide)]) (fun j => by rw [mAI_wAI_ne (by decide)]; exact w10 j)
            obtain ⟨Z, eZ⟩ : ∃ Z, Z = wAI M10 129 at0 (Int32.ofNat n) := ⟨_, rfl⟩
            rw [← eZ] at T10
            have rz : ∀ c, c ≠ 129 → mAI Z c = mAI M10 c := fun c hc => aiN eZ hc
            rw [← en]
            refine TiR.nw (Y := (Y.1, pt2 Y.2.1 s v (Int32.ofNat n), pt2 Y.2.2 s v (sGn R ρ))) T10 (by show Y.1.length < 48; omega) (fun j => ?_) (fun j => ?_) (fun j => ?_) (fun j => ?_) (funext fun j => ?_) ?_
            · show _ = if j = 48 * moM R + Y.1.length then _ else _
              rw [r6 124 (by decide) (by decide) (by decide), aiN e41 (by decide), aiN e38 (by decide), aiN e35' (by decide), wr_j e30 j, ← en, rz 124 (by decide), aiN e27 (by decide)]
            · show _ = if j = 48 * moM R + Y.1.length then _ else _
              rw [r6 125 (by decide) (by decide) (by decide), aiN e41 (by decide), aiN e38 (by decide), wr_j e35' j, ← en, rz 125 (by decide), aiN e30 (by decide), aiN e27 (by decide)]
            · show _ = if j = 48 * moM R + Y.1.length then _ else _
              rw [r6 126 (by decide) (by decide) (by decide), aiN e41 (by decide), wr_j e38 j, ← en, rz 126 (by decide), aiN e35' (by decide), aiN e30 (by decide), aiN e27 (by decide)]
            · show _ = if j = 48 * moM R + Y.1.length then _ else _
              rw [r6 127 (by decide) (by decide) (by decide), wr_j e41 j, ← en, rz 127 (by decide), aiN e38 (by decide), aiN e35' (by decide), aiN e30 (by decide), aiN e27 (by decide)]
            · rw [w6 j, r41' 129 (Or.inl rfl), wr_j eZ j]
            · rw [r6 130 (by decide) (by decide) (by decide), r41' 130 (Or.inr (Or.inr rfl)), rz 130 (by decide)]
          · have n8 : ¬ n < 48 := fun y => by
              rw [hr10.1] at z
              have := inj32 (a := n) (b := 48) (by omega) (by decide) z
              omega
            have es : stpX a Y s v (some (sGn R ρ, false, pp)) = (Y, true) := stp_b fd (by omega)
            refine ⟨122, rf29_114 F10, ok122 F10, vm (ln122 F10), fun M44 e44 => ?_⟩
            refine K M44 _ (k10.tr (SkF.ai (c := 122) (k := moM R) (by unfold skA; omega) e44)) cor (by rw [es, ← en]; exact hr10.k (aiN e44 (by decide)) (aiN e44 (by decide))) (hL10.k (aiN e44 (by decide))) (by rw [e44]; exact em10) ?_ (fun q => by rw [es] at q; cases q)
            rw [es, if_pos rfl, e44, mAI_wAI, if_pos ⟨rfl, rfl⟩]
      · -- it ends
        have yd : decide (ρ (4, y, 0) = 1) = true := decide_eq_true (inj32 (by omega) (by decide) (yk.trans (show (1 : Int32) = Int32.ofNat 1 from rfl)))
        have eo : ocR R y (stX Y s).1 ρ = some (sGn R ρ, true, sNw R (stX Y s).1 ρ (moS R).1) := by unfold ocR; rw [yd]
        rw [eo] at cor
        refine ⟨129, rf29_121 F10, ok129 F10, vat (ln129 F10), fun M47 e47 => ?_⟩
        rw [lat] at e47
        refine K M47 _ (k10.tr (SkF.ai (c := 129) (k := at0) (by unfold skA; omega) e47)) cor (by show SrI M47 (moM R) Y.1.length; rw [← en]; exact hr10.k (aiN e47 (by decide)) (aiN e47 (by decide))) (hL10.ai (Or.inl (by decide)) e47) (by rw [e47]; exact em10) ?_ (fun _ => hX.pt (by omega) hv t5 hat (fun c h1 h2 => by rw [aiN e47 (by omega), r10 c (by omega) (by omega)]) (fun j => by rw [wr_j e47 j, r10 129 (by decide) (by decide)]) (fun j => by rw [aiN e47 (by decide)]; exact w10 j))
        show _ = if (false = true) then (2 : Int32) else 1
        rw [if_neg (by decide), e47, mAI_wAI, if_neg (fun y => absurd y.1 (by decide))]; exact e122
    · -- wires stay unknown
      have kn : ¬ KnR R ρ := by
        rcases hkn with ⟨q, -⟩ | ⟨-, q⟩
        · rw [q] at z0; exact absurd z0 (by decide)
        · exact q
      have cor : CorR R il y (stX Y s).1 (stX Y s).2.1 (decide (s = 0)) v none := by
        rw [eI, hf] at jF fx
        exact ⟨ρ, jF, fx, Or.inr ⟨kn, rfl⟩⟩
      have k4' : SkF (moM R) M M4 := k2.tr (SkF.rb k4)
      have F4 := k4'.fix F
      have em4 : mI M4 29 84 = Int32.ofNat (moM R) := by rw [k4.2.2.2.1 84 (by decide)]; exact em2
      have r4 : ∀ c, 102 ≤ c → mAI M4 c = mAI M c := fun c hc => by rw [k4.2.2.2.2 c (fun y => by omega), r2]
      have hr4 : SrI M4 (moM R) n := hr0.k (r4 123 (by decide)) (r4 126 (by decide))
      have hL4 : LdO M4 := hL.k (r4 129 (by decide))
      have e122 : mAI M4 122 (moM R) = 1 := by rw [r4 122 (by decide)]; exact e1
      refine ⟨129, rf29_121 F4, ok129 F4, vat (ln129 F4), fun M50 e50 => ?_⟩
      rw [lat] at e50
      have k50 : SkF (moM R) M M50 := k4'.tr (SkF.ai (c := 129) (k := at0) (by unfold skA; omega) e50)
      have F50 := k50.fix F
      refine ⟨130, rf29_122 F50, ok130 F50, vat (ln130 F50), fun M53 e53 => ?_⟩
      rw [lat] at e53
      refine K M53 none (k50.tr (SkF.ai (c := 130) (k := at0) (by unfold skA; omega) e53)) cor (by show SrI M53 (moM R) Y.1.length; rw [← en]; exact hr4.k ((aiN e53 (by decide)).trans (aiN e50 (by decide))) ((aiN e53 (by decide)).trans (aiN e50 (by decide)))) ((hL4.ai (Or.inl (by decide)) e50).k (aiN e53 (by decide))) (by rw [e53, e50]; exact em4) ?_ (fun _ => hX.pt (by omega) hv t5 hat (fun c h1 h2 => by rw [aiN e53 (by omega), aiN e50 (by omega), r4 c (by omega)]) (fun j => by rw [aiN e53 (by decide), wr_j e50 j, r4 129 (by decide)]) (fun j => by rw [wr_j e53 j, aiN e50 (by decide), r4 130 (by decide)]))
      show _ = if (false = true) then (2 : Int32) else 1
      rw [if_neg (by decide), e53, mAI_wAI, if_neg (fun y => absurd y.1 (by decide)), e50, mAI_wAI, if_neg (fun y => absurd y.1 (by decide))]; exact e122
  obtain ⟨x4, x5⟩ := hX.1 s hs
  refine KX11_move1 (h := h + 5) ?_
  unfold DX11_move1_0
  rw [e48, eat, ← hat, l48, lm]
  refine ⟨ok29 F, 124, rf29_116 F, ok124 F, v48 (ln124 F), fun M4 e4 => ?_⟩
  have k4 : SkF (moM R) M M4 := SkF.i (by omega) e4
  have F4 := k4.fix F
  refine ⟨125, rf29_117 F4, ok125 F4, v48 (ln125 F4), fun M7 e7 => ?_⟩
  have k7 : SkF (moM R) M M7 := k4.tr (SkF.i (by omega) e7)
  have F7 := k7.fix F
  refine ⟨35, rf29_9 F7, ok35 F7, vm (ln35 F7), fun M10 e10 => ?_⟩
  have k10 : SkF (moM R) M M10 := k7.tr (SkF.i (by omega) e10)
  have F10 := k10.fix F
  refine ⟨35, rf29_9 F10, ok35 F10, vm (ln35 F10), fun M13 e13 => ?_⟩
  have k13 : SkF (moM R) M M13 := k10.tr (SkF.i (by omega) e13)
  rw [show mAI M 124 (48 * moM R + s) = (stX Y s).1 from x4] at e4
  rw [show mAI M4 125 (48 * moM R + s) = (stX Y s).2.1 from by rw [e4]; exact x5] at e7
  rw [show mAI M7 35 (moM R) = Int32.ofNat il.length from by rw [e7, e4]; exact e35] at e10
  rw [show mAI M10 35 (moM R) = Int32.ofNat il.length from by rw [e10, e7, e4]; exact e35] at e13
  have em13 : mI M13 29 84 = Int32.ofNat (moM R) := by
    rw [e13, mI_wI, if_neg (fun y => absurd y.2 (by decide)), e10, mI_wI, if_neg (fun y => absurd y.2 (by decide)), e7, mI_wI, if_neg (fun y => absurd y.2 (by decide)), e4, mI_wI, if_neg (fun y => absurd y.2 (by decide))]
    exact em
  have g5 : mI M13 29 85 = (stX Y s).1 := by
    rw [e13, mI_wI, if_neg (fun y => absurd y.2 (by decide)), e10, mI_wI, if_neg (fun y => absurd y.2 (by decide)), e7, mI_wI, if_neg (fun y => absurd y.2 (by decide)), e4, mI_wI, if_pos ⟨rfl, rfl⟩]
  have g6 : mI M13 29 86 = (stX Y s).2.1 := by
    rw [e13, mI_wI, if_neg (fun y => absurd y.2 (by decide)), e10, mI_wI, if_neg (fun y => absurd y.2 (by decide)), e7, mI_wI, if_pos ⟨rfl, rfl⟩]
  have g7 : mI M13 29 87 = Int32.ofNat v &&& (((1 : Int32) <<< (Int32.ofNat il.length &&& 31)) - 1) := by
    rw [e13, mI_wI, if_neg (fun y => absurd y.2 (by decide)), e10, mI_wI, if_pos ⟨rfl, rfl⟩]
  have g8 : mI M13 29 88 = Int32.ofNat v >>> (Int32.ofNat il.length &&& 31) := by
    rw [e13, mI_wI, if_pos ⟨rfl, rfl⟩]
  have r13 : mAI M13 = mAI M := by rw [e13, e10, e7, e4]; rfl
  refine ⟨fun z => ?_, fun z => ?_⟩
  · have ns : ¬ s = 0 := fun y => z (by rw [y]; rfl)
    exact body false (by rw [decide_eq_false ns]) 0 rfl M13 k13 em13 r13 g5 g6 g7 g8
  · have s0 : s = 0 := inj32 (by omega) (by decide) (z.trans (show (0 : Int32) = Int32.ofNat 0 from rfl))
    exact body true (by rw [decide_eq_true s0]) 1 rfl M13 k13 em13 r13 g5 g6 g7 g8
end
