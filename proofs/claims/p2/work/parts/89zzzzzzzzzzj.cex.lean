/-! the class's Search, exactly: reach, groupAlike -/
/-- what the rows say -/
def TiC (M : Mem) (x t : Nat) (a : Nat → Nat) (Y : XsT) : Prop := mI M x 3 = Int32.ofNat Y.1.length ∧ (∀ s, s < Y.1.length → (mAI M (a 5) s = (stX Y s).1 ∧ mAI M (a 6) s = (stX Y s).2.1) ∧ mAI M (a 7) s = Int32.ofNat (stX Y s).2.2.1 ∧ mAI M (a 8) s = Int32.ofNat (stX Y s).2.2.2) ∧ ∀ s v, s < 48 → v < 2 ^ t → mAI M (a 9) (s * 2 ^ t + v) = Y.2.1 s v ∧ mAI M (a 10) (s * 2 ^ t + v) = Y.2.2 s v
theorem btL_xor {x y : Int32} {l : Nat} : btL (x ^^^ y) l = (btL x l ^^ btL y l) := by
  unfold btL
  rw [Int32.toBitVec_xor, BitVec.getLsbD_xor]
theorem xa_0 {x y o : Int32} : (x ^^^ y) &&& o = 0 ↔ x &&& o = y &&& o := by
  constructor
  · intro h
    refine btL_ext (fun l _ => ?_)
    have e : btL ((x ^^^ y) &&& o) l = false := by rw [h, btL_0]
    rw [btL_and, btL_xor] at e
    rw [btL_and, btL_and]
    revert e
    cases btL x l <;> cases btL y l <;> cases btL o l <;> decide
  · intro h
    refine btL_ext (fun l _ => ?_)
    have e : btL (x &&& o) l = btL (y &&& o) l := by rw [h]
    rw [btL_and, btL_and] at e
    rw [btL_and, btL_xor, btL_0]
    revert e
    cases btL x l <;> cases btL y l <;> cases btL o l <;> decide
theorem wCp_at {M : Mem} {b c n q : Nat} (hq : q < n) : mAI (wCp M b c 0 0 n) c q = mAI M b q := by
  show (va_up (mAI M) c (va_cpy (mAI M b) (mAI M c) 0 0 n)) c q = _
  simp [va_up, va_cpy, hq]
section
variable {M M' M1 : Mem} {x c t n s h : Nat} {a : Nat → Nat} {Y : XsT} {Q : Option Value → Mem → Prop} {S : Nat → Prop} {G G' : Nat → Nat} {o : Int32}
theorem TiC.k (h : TiC M x t a Y) (e3 : mI M' x 3 = mI M x 3) (r : ∀ f, 5 ≤ f → f ≤ 10 → mAI M' (a f) = mAI M (a f)) : TiC M' x t a Y := by
  unfold TiC
  rw [e3, r 5 (by decide) (by decide), r 6 (by decide) (by decide), r 7 (by decide) (by decide), r 8 (by decide) (by decide), r 9 (by decide) (by decide), r 10 (by decide) (by decide)]
  exact h
/-- a lead, a show -/
theorem TiC.ld {v : Nat} {d : Int32} (h : TiC M x t a Y) (hO : ScO M x c t a) (hv : v < 2 ^ t) (e : M' = wAI M (a 9) (s * 2 ^ t + v) d) : TiC M' x t a (Y.1, pt2 Y.2.1 s v d, Y.2.2) := by
  obtain ⟨h1, h2, h3⟩ := h
  have r : ∀ f, 5 ≤ f → f ≤ 10 → f ≠ 9 → mAI M' (a f) = mAI M (a f) := fun f f1 f2 f3 => aiN e (hO.ne f1 (by omega) (by decide) (by decide) f3)
  refine ⟨by rw [e]; exact h1, fun q hq => by rw [r 5 (by decide) (by decide) (by decide), r 6 (by decide) (by decide) (by decide), r 7 (by decide) (by decide) (by decide), r 8 (by decide) (by decide) (by decide)]; exact h2 q hq, fun q w hq hw => ⟨?_, by rw [r 10 (by decide) (by decide) (by decide)]; exact (h3 q w hq hw).2⟩⟩
  show _ = pt2 Y.2.1 s v d q w
  unfold pt2
  rw [wr_j e]
  by_cases z : q = s ∧ w = v
  · rw [if_pos (by rw [z.1, z.2]), if_pos z]
  · rw [if_neg (fun y => z (mv_inj hv hw y)), if_neg z]; exact (h3 q w hq hw).1
theorem TiC.sh {v : Nat} {d : Int32} (h : TiC M x t a Y) (hO : ScO M x c t a) (hv : v < 2 ^ t) (e : M' = wAI M (a 10) (s * 2 ^ t + v) d) : TiC M' x t a (Y.1, Y.2.1, pt2 Y.2.2 s v d) := by
  obtain ⟨h1, h2, h3⟩ := h
  have r : ∀ f, 5 ≤ f → f ≤ 10 → f ≠ 10 → mAI M' (a f) = mAI M (a f) := fun f f1 f2 f3 => aiN e (hO.ne f1 (by omega) (by decide) (by decide) f3)
  refine ⟨by rw [e]; exact h1, fun q hq => by rw [r 5 (by decide) (by decide) (by decide), r 6 (by decide) (by decide) (by decide), r 7 (by decide) (by decide) (by decide), r 8 (by decide) (by decide) (by decide)]; exact h2 q hq, fun q w hq hw => ⟨by rw [r 9 (by decide) (by decide) (by decide)]; exact (h3 q w hq hw).1, ?_⟩⟩
  show _ = pt2 Y.2.2 s v d q w
  unfold pt2
  rw [wr_j e]
  by_cases z : q = s ∧ w = v
  · rw [if_pos (by rw [z.1, z.2]), if_pos z]
  · rw [if_neg (fun y => z (mv_inj hv hw y)), if_neg z]; exact (h3 q w hq hw).2
/-- what a MOVE leads to -/
theorem S_rchx {w b ask : Int32} {v : Nat} (hO : ScO M x c t a) (hC : ScC M x t n a) (hT : TiC M x t a Y) (hn : n = Y.1.length) (e4 : mI M x 4 = ask) (hs : s < 48) (K1 : ∀ q, fdX Y.1 w (b &&& ask) = some q → Q (some (.int (Int32.ofNat q))) M) (K2 : ∀ M', fdX Y.1 w (b &&& ask) = none → Y.1.length < 48 → GmF x f23 (rwF a) M M' → ScC M' x t (n + 1) a → TiC M' x t a (Y.1 ++ [(w, b &&& ask, s, v)], Y.2.1, Y.2.2) → mI M' x 2 = mI M x 2 → (∀ f, f = 11 ∨ f = 12 → mAI M' (a f) = mAI M (a f)) → Q (some (.int (Int32.ofNat Y.1.length))) M') (K3 : ∀ M', fdX Y.1 w (b &&& ask) = none → ¬ Y.1.length < 48 → GmF x f23 (rwF a) M M' → ScC M' x t n a → mI M' x 2 = 1 → (∀ f, f = 11 ∨ f = 12 → mAI M' (a f) = mAI M (a f)) → Q (some (.int (-1))) M') : E (h + 1) mdX5_reach [.ref x, .int (Int32.ofNat s), .int (Int32.ofNat v), .int w, .int b] M Q := by
  obtain ⟨⟨ox, e0, e1, t5⟩, hf, hd⟩ := id hO
  obtain ⟨⟨c1, c2⟩, c3, c4⟩ := id hC
  obtain ⟨y, ey⟩ : ∃ y, y = b &&& ask := ⟨_, rfl⟩
  rw [← ey] at K1 K2 K3
  have hEnd : ∀ k, n ≤ k → k ≤ 48 → fdX Y.1 w y = none → DX5_reach_12 h x (Int32.ofNat s) (Int32.ofNat v) w y (Int32.ofNat k) M Q := by
    intro k hk hk8 fd
    have ln : (Int32.ofNat n).toNatClampNeg = n := lt32 (by omega)
    unfold DX5_reach_12
    rw [c1]
    refine ⟨ox, fun _ => ⟨fun z => ?_, fun z => ⟨Or.inr rfl, fun M15 e15 => ?_⟩⟩, fun z => absurd ((le32 (by omega) (by omega)).mpr hk) z⟩
    · have nlt : n < 48 := (ltn32 (a := n) (b := 48) (by omega) (by decide)).mp z
      have vn : ∀ {M1 : Mem} {f : Nat}, ScO M1 x c t a → 5 ≤ f → f ≤ 8 → vp_in (Int32.ofNat n) (mL M1 (a f)) := fun hO1 f1 f2 => by rw [hO1.l48 f1 (by omega) (by omega) (by omega)]; exact vp_of nlt (by decide)
      rw [ln]
      refine ⟨a 5, (hf 5 (by decide) (by decide)).1, (hf 5 (by decide) (by decide)).2.1, vn hO (by decide) (by decide), fun M4 e4' => ?_⟩
      have k4 : GmF x f23 (rwF a) M M4 := GmF.a ⟨5, by decide, by decide, rfl⟩ e4'
      have O4 := hO.gm k4 (by decide)
      have i4 : mI M4 x 3 = Int32.ofNat n := by rw [e4']; exact c1
      rw [i4, ln]
      refine ⟨a 6, (O4.2.1 6 (by decide) (by decide)).1, (O4.2.1 6 (by decide) (by decide)).2.1, vn O4 (by decide) (by decide), fun M7 e7 => ?_⟩
      have k7 : GmF x f23 (rwF a) M M7 := k4.tr (GmF.a ⟨6, by decide, by decide, rfl⟩ e7)
      have O7 := hO.gm k7 (by decide)
      have i7 : mI M7 x 3 = Int32.ofNat n := by rw [e7]; exact i4
      rw [i7, ln]
      refine ⟨a 7, (O7.2.1 7 (by decide) (by decide)).1, (O7.2.1 7 (by decide) (by decide)).2.1, vn O7 (by decide) (by decide), fun M10 e10 => ?_⟩
      have k10 : GmF x f23 (rwF a) M M10 := k7.tr (GmF.a ⟨7, by decide, by decide, rfl⟩ e10)
      have O10 := hO.gm k10 (by decide)
      have i10 : mI M10 x 3 = Int32.ofNat n := by rw [e10]; exact i7
      rw [i10, ln]
      refine ⟨a 8, (O10.2.1 8 (by decide) (by decide)).1, (O10.2.1 8 (by decide) (by decide)).2.1, vn O10 (by decide) (by decide), fun M13 e13 M14 e14 => ?_⟩
      have i13 : mI M13 x 3 = Int32.ofNat n := by rw [e13]; exact i10
      rw [i13, succ32] at e14
      have k14 : GmF x f23 (rwF a) M M14 := (k10.tr (GmF.a ⟨8, by decide, by decide, rfl⟩ e13)).tr (GmF.i (Or.inr rfl) e14)
      have i14 : mI M14 x 3 = Int32.ofNat (n + 1) := by rw [e14, mI_wI, if_pos ⟨rfl, rfl⟩]
      have a14 : mAI M14 = mAI M13 := by rw [e14]; rfl
      have ne : ∀ {f g : Nat}, 5 ≤ f → f ≤ 12 → 5 ≤ g → g ≤ 12 → f ≠ g → a f ≠ a g := fun f1 f2 g1 g2 h => hO.ne f1 f2 g1 g2 h
      have r5 : mAI M14 (a 5) = mAI M4 (a 5) := by rw [a14, aiN e13 (ne (by decide) (by decide) (by decide) (by decide) (by decide)), aiN e10 (ne (by decide) (by decide) (by decide) (by decide) (by decide)), aiN e7 (ne (by decide) (by decide) (by decide) (by decide) (by decide))]
      have r6 : mAI M14 (a 6) = mAI M7 (a 6) := by rw [a14, aiN e13 (ne (by decide) (by decide) (by decide) (by decide) (by decide)), aiN e10 (ne (by decide) (by decide) (by decide) (by decide) (by decide))]
      have r7 : mAI M14 (a 7) = mAI M10 (a 7) := by rw [a14, aiN e13 (ne (by decide) (by decide) (by decide) (by decide) (by decide))]
      have r8 : mAI M14 (a 8) = mAI M13 (a 8) := by rw [a14]
      have q6 : mAI M4 (a 6) = mAI M (a 6) := aiN e4' (ne (by decide) (by decide) (by decide) (by decide) (by decide))
      have q7 : mAI M7 (a 7) = mAI M (a 7) := (aiN e7 (ne (by decide) (by decide) (by decide) (by decide) (by decide))).trans (aiN e4' (ne (by decide) (by decide) (by decide) (by decide) (by decide)))
      have q8 : mAI M10 (a 8) = mAI M (a 8) := (aiN e10 (ne (by decide) (by decide) (by decide) (by decide) (by decide))).trans ((aiN e7 (ne (by decide) (by decide) (by decide) (by decide) (by decide))).trans (aiN e4' (ne (by decide) (by decide) (by decide) (by decide) (by decide))))
      have r90 : ∀ f, 9 ≤ f ∧ f ≤ 12 → mAI M14 (a f) = mAI M (a f) := fun f hf9 => by rw [a14, aiN e13 (ne (by omega) (by omega) (by decide) (by decide) (by omega)), aiN e10 (ne (by omega) (by omega) (by decide) (by decide) (by omega)), aiN e7 (ne (by omega) (by omega) (by decide) (by decide) (by omega)), aiN e4' (ne (by omega) (by omega) (by decide) (by decide) (by omega))]
      rw [i14, ← succ32, Int32.add_sub_cancel, hn]
      have lnY : (Y.1 ++ [(w, y, s, v)]).length = n + 1 := by rw [List.length_append, hn]; rfl
      refine K2 M14 fd (by omega) k14 ⟨⟨i14, by omega⟩, fun q hq => ?_, fun j hj => ?_⟩ ⟨?_, fun q hq => ?_, fun q u hq hu => ?_⟩ ?_ (fun f f11 => r90 f (by omega))
      · rw [r7, wr_j e10]
        by_cases z : q = n
        · rw [if_pos z]; exact ⟨s, hs, rfl⟩
        · rw [if_neg z, q7]; exact c3 q hq
      · rw [r90 9 (by decide)]; exact c4 j hj
      · rw [i14]; show _ = Int32.ofNat (Y.1 ++ [(w, y, s, v)]).length; rw [lnY]
      · have hq : q < (Y.1 ++ [(w, y, s, v)]).length := hq
        rw [r5, r6, r7, r8, wr_j e4', wr_j e7, wr_j e10, wr_j e13, q6, q7, q8]
        by_cases z : q = n
        · rw [if_pos z, if_pos z, if_pos z, if_pos z, z, hn, stX_r]; exact ⟨⟨rfl, rfl⟩, rfl, rfl⟩
        · rw [if_neg z, if_neg z, if_neg z, if_neg z, stX_l (by omega)]; exact hT.2.1 q (by omega)
      · rw [r90 9 (by decide), r90 10 (by decide)]; exact hT.2.2 q u hq hu
      · rw [e14, mI_wI, if_neg (fun y => absurd y.2 (by decide)), e13, e10, e7, e4']; rfl
    · have n8 : ¬ Y.1.length < 48 := fun y => z ((ltn32 (a := n) (b := 48) (by omega) (by decide)).mpr (by omega))
      refine K3 M15 fd n8 (GmF.i (Or.inl rfl) e15) (hC.k ?_ ?_ ?_) ?_ (fun f _ => by rw [e15]; rfl)
      · rw [e15, mI_wI, if_neg (fun y => absurd y.2 (by decide))]
      · rw [e15]; rfl
      · rw [e15]; rfl
      · rw [e15, mI_wI, if_pos ⟨rfl, rfl⟩]
  have main : ∀ d k, k + d = 48 → 1 ≤ k → (∀ r, 1 ≤ r → r < k → r < n → ¬ ((Y.1.getD r sq0).1 = w ∧ (Y.1.getD r sq0).2.1 = y)) → T (h + 1) mdX5_reach 12 [(0, .ref x), (1, .int (Int32.ofNat s)), (2, .int (Int32.ofNat v)), (3, .int w), (5, .int y), (6, .int (Int32.ofNat k))] [] M Q := by
    intro d
    induction d with
    | zero =>
      intro k hk k1 no
      have ek : k = 48 := hk
      exact VX5_reach_12 (hEnd k (by omega) (by omega) (fdX_no (fun r h1 h2 => no r h1 (by omega) (by omega))))
    | succ d ih =>
      intro k hk k1 no
      by_cases z : n ≤ k
      · exact VX5_reach_12 (hEnd k z (by omega) (fdX_no (fun r h1 h2 => no r h1 (by omega) (by omega))))
      · have vk : ∀ {f : Nat}, 5 ≤ f → f ≤ 8 → vp_in (Int32.ofNat k) (mL M (a f)) := fun f1 f2 => by rw [hO.l48 f1 (by omega) (by omega) (by omega)]; exact vp_of (by omega) (by decide)
        obtain ⟨⟨x5, x6⟩, -⟩ := hT.2.1 k (by omega)
        have x5 : mAI M (a 5) k = (Y.1.getD k sq0).1 := x5
        have x6 : mAI M (a 6) k = (Y.1.getD k sq0).2.1 := x6
        have nx : ¬ ((Y.1.getD k sq0).1 = w ∧ (Y.1.getD k sq0).2.1 = y) → T (h + 1) mdX5_reach 12 [(0, .ref x), (1, .int (Int32.ofNat s)), (2, .int (Int32.ofNat v)), (3, .int w), (5, .int y), (6, .int (Int32.ofNat (k + 1)))] [] M Q := fun nm => ih (k + 1) (by omega) (by omega) (fun r h1 h2 h3 => by
          by_cases q : r = k
          · rw [q]; exact nm
          · exact no r h1 (by omega) h3)
        refine VX5_reach_12 ?_
        unfold DX5_reach_12 DX5_reach_47
        rw [c1, succ32, lt32 (show k < 2147483648 by omega)]
        refine ⟨ox, fun w => absurd ((le32 (by omega) (by omega)).mp w) z, fun _ => ⟨a 5, (hf 5 (by decide) (by decide)).1, (hf 5 (by decide) (by decide)).2.1, vk (by decide) (by decide), fun ne => nx (fun q => ne (by rw [x5]; exact q.1)), fun m1 => ⟨a 6, (hf 6 (by decide) (by decide)).1, (hf 6 (by decide) (by decide)).2.1, vk (by decide) (by decide), fun ne => nx (fun q => ne (by rw [x6]; exact q.2)), fun m2 => K1 k (fdX_of k1 (by omega) (by rw [← x5]; exact m1) (by rw [← x6]; exact m2) (fun r h1 h2 => no r h1 h2 (by omega)))⟩⟩⟩
  refine KX5_reach ?_
  unfold DX5_reach_0
  rw [e4, ← ey]
  exact ⟨ox, main 47 1 (by omega) (by omega) (fun r h1 h2 => by omega)⟩
/-- classes in the row of groups -/
def CgC (M : Mem) (a : Nat → Nat) (n : Nat) (G : Nat → Nat) : Prop := ∀ s, s < n → mAI M (a 11) s = Int32.ofNat (G s) ∧ G s ≤ s
theorem S_grpx {y : Int32} (hO : ScO M x c t a) (hG : CgC M a n G) (n48 : n ≤ 48) (hy : y = -1 ∨ y = -2 ∨ ∃ q, q < n ∧ y = Int32.ofNat q) (K : Q (some (.int (gO G y))) M) : E (h + 1) mdX5_groupOf [.ref x, .int y] M Q := by
  refine KX5_groupOf ?_
  unfold DX5_groupOf_0 DX5_groupOf_14
  rcases hy with hy | hy | ⟨q, q1, q2⟩
  · rw [hy] at K ⊢
    exact ⟨fun z => absurd z (by decide), fun _ => by rw [gO_n (by decide)] at K; exact K⟩
  · rw [hy] at K ⊢
    exact ⟨fun z => absurd z (by decide), fun _ => by rw [gO_n (by decide)] at K; exact K⟩
  · rw [q2] at K ⊢
    rw [gO_q (by omega)] at K
    refine ⟨fun z => ⟨hO.1.1, a 11, (hO.2.1 11 (by decide) (by decide)).1, (hO.2.1 11 (by decide) (by decide)).2.1, ?_, ?_⟩, fun z => absurd (Int32.not_lt.mp (nn32 (n := q) (by omega))) z⟩
    · rw [hO.l48 (by decide) (by decide) (by decide) (by decide)]; exact vp_of (by omega) (by decide)
    · rw [lt32 (show q < 2147483648 by omega), (hG q q1).1]; exact K
theorem S_mvAx {p q : Nat} (hO : ScO M x c t a) (hT : TiC M x t a Y) (hY : OkX t Y) (hn : n = Y.1.length) (hG : CgC M a n G) (oc : ok M c 3) (eo : mI M c 11 = o) (hp : p < n) (hq : q < n) (K : ∀ r : Int32, (r = 0 ∨ r = 1) → (r = 1 ↔ ∀ v, v < 2 ^ t → gO G (Y.2.1 p v) = gO G (Y.2.1 q v) ∧ Y.2.2 p v &&& o = Y.2.2 q v &&& o) → Q (some (.int r)) M) : E (h + 2) mdX5_moveAlike [.ref x, .int (Int32.ofNat p), .int (Int32.ofNat q)] M Q := by
  obtain ⟨⟨ox, e0, e1, t5⟩, hf, -⟩ := id hO
  obtain ⟨p1, p2⟩ := pw_le t5
  have n48 : n ≤ 48 := by rw [hn]; exact hY.1.2
  have main : ∀ d v, v + d = 2 ^ t → (∀ u, u < v → gO G (Y.2.1 p u) = gO G (Y.2.1 q u) ∧ Y.2.2 p u &&& o = Y.2.2 q u &&& o) → T (h + 2) mdX5_moveAlike 2 [(0, .ref x), (1, .int (Int32.ofNat p)), (2, .int (Int32.ofNat q)), (3, .int (Int32.ofNat v))] [] M Q := by
    intro d
    induction d with
    | zero =>
      intro v hv al
      have ev : v = 2 ^ t := hv
      subst ev
      refine VX5_moveAlike_2 (h := h + 1) ?_
      unfold DX5_moveAlike_2
      rw [e1]
      exact ⟨ox, fun _ => ⟨Or.inr rfl, K 1 (Or.inr rfl) ⟨fun _ => al, fun _ => rfl⟩⟩, fun z => absurd Int32.le_rfl z⟩
    | succ d ih =>
      intro v hv al
      have vt : v < 2 ^ t := by omega
      obtain ⟨i1, i2, i3⟩ := ix_mv (s := p) (v := v) t5 (by omega) vt
      obtain ⟨j1, j2, -⟩ := ix_mv (s := q) (v := v) t5 (by omega) vt
      have l1 : (Int32.ofNat (p * 2 ^ t + v)).toNatClampNeg = p * 2 ^ t + v := lt32 (by omega)
      have l2 : (Int32.ofNat (q * 2 ^ t + v)).toNatClampNeg = q * 2 ^ t + v := lt32 (by omega)
      have v1 : ∀ {f : Nat}, f = 9 ∨ f = 10 → vp_in (Int32.ofNat (p * 2 ^ t + v)) (mL M (a f)) := fun hf9 => by rw [hO.lm hf9]; exact vp_of i2 (by omega)
      have v2 : ∀ {f : Nat}, f = 9 ∨ f = 10 → vp_in (Int32.ofNat (q * 2 ^ t + v)) (mL M (a f)) := fun hf9 => by rw [hO.lm hf9]; exact vp_of j2 (by omega)
      obtain ⟨y1, y2⟩ := hT.2.2 p v (by omega) vt
      obtain ⟨w1, w2⟩ := hT.2.2 q v (by omega) vt
      have ld : ∀ s, Y.2.1 s v = -1 ∨ Y.2.1 s v = -2 ∨ ∃ q, q < n ∧ Y.2.1 s v = Int32.ofNat q := fun s => by rw [hn]; exact hY.2.1 s v
      have no : ¬ (gO G (Y.2.1 p v) = gO G (Y.2.1 q v) ∧ Y.2.2 p v &&& o = Y.2.2 q v &&& o) → Q (some (.int 0)) M := fun na => K 0 (Or.inl rfl) ⟨fun z => absurd z (by decide), fun z => absurd (z v vt) na⟩
      refine VX5_moveAlike_2 (h := h + 1) ?_
      unfold DX5_moveAlike_2
      rw [e1, i1, j1, l1, l2, succ32]
      refine ⟨ox, fun z => absurd ((le32 (by omega) (by omega)).mp z) (by omega), fun _ => ⟨a 10, (hf 10 (by decide) (by decide)).1, (hf 10 (by decide) (by decide)).2.1, v1 (Or.inr rfl), a 10, (hf 10 (by decide) (by decide)).1, (hf 10 (by decide) (by decide)).2.1, v2 (Or.inr rfl), c, e0, oc, ?_⟩⟩
      rw [y2, w2, eo]
      refine ⟨fun zo => ⟨a 9, (hf 9 (by decide) (by decide)).1, (hf 9 (by decide) (by decide)).2.1, v1 (Or.inl rfl), ?_⟩, fun zo => ⟨Or.inl rfl, no (fun y => zo (xa_0.mpr y.2))⟩⟩
      rw [y1]
      refine S_grpx (h := h) hO hG n48 (ld p) (fun _ => ⟨_, rfl, a 9, (hf 9 (by decide) (by decide)).1, (hf 9 (by decide) (by decide)).2.1, v2 (Or.inl rfl), ?_⟩)
      rw [w1]
      refine S_grpx (h := h) hO hG n48 (ld q) (fun _ => ⟨_, rfl, fun eg => ih (v + 1) (by omega) (fun u hu => ?_), fun ng => ⟨Or.inl rfl, no (fun y => ng y.1)⟩⟩)
      by_cases z : u = v
      · rw [z]; exact ⟨eg, xa_0.mp zo⟩
      · exact al u (by omega)
  refine KX5_moveAlike (h := h + 1) ?_
  unfold DX5_moveAlike_0
  exact main (2 ^ t) 0 (by omega) (fun u hu => absurd hu (Nat.not_lt_zero _))
theorem S_lstx (hO : ScO M x c t a) (hT : TiC M x t a Y) (hY : OkX t Y) (hn : n = Y.1.length) (hG : CgC M a n G) (oc : ok M c 3) (eo : mI M c 11 = o) (hs : s < n) (hF : ∀ q, q < s → mAI M (a 12) q = Int32.ofNat (G' q)) (hN : Nx1 Y o t s G G') (K : ∀ r, r ≤ s → alK Y o t G r s → (∀ d, d < r → ¬ alK Y o t G d s) → Q (some (.int (Int32.ofNat r))) M) : E (h + 3) mdX5_leastAlike [.ref x, .int (Int32.ofNat s)] M Q := by
  obtain ⟨⟨ox, e0, e1, t5⟩, hf, -⟩ := id hO
  have n48 : n ≤ 48 := by rw [hn]; exact hY.1.2
  have main : ∀ d i, i + d = s → (∀ q, q < i → ¬ alK Y o t G q s) → T (h + 3) mdX5_leastAlike 2 [(0, .ref x), (1, .int (Int32.ofNat s)), (2, .int (Int32.ofNat i))] [] M Q := by
    intro d
    induction d with
    | zero =>
      intro i hi no
      have e : i = s := hi
      subst e
      refine VX5_leastAlike_2 (h := h + 2) ?_
      unfold DX5_leastAlike_2
      exact ⟨fun _ => K i (Nat.le_refl _) alK.rf no, fun z => absurd Int32.le_rfl z⟩
    | succ d ih =>
      intro i hi no
      have vi : ∀ {f : Nat}, 11 ≤ f → f ≤ 12 → vp_in (Int32.ofNat i) (mL M (a f)) := fun f1 f2 => by rw [hO.l48 (by omega) f2 (by omega) (by omega)]; exact vp_of (by omega) (by decide)
      have vs : ∀ {f : Nat}, 11 ≤ f → f ≤ 12 → vp_in (Int32.ofNat s) (mL M (a f)) := fun f1 f2 => by rw [hO.l48 (by omega) f2 (by omega) (by omega)]; exact vp_of (by omega) (by decide)
      have nx : ¬ alK Y o t G i s → T (h + 3) mdX5_leastAlike 2 [(0, .ref x), (1, .int (Int32.ofNat s)), (2, .int (Int32.ofNat (i + 1)))] [] M Q := fun na => ih (i + 1) (by omega) (fun q hq => by
        by_cases z : q = i
        · rw [z]; exact na
        · exact no q (by omega))
      obtain ⟨g1, g2⟩ := hG i (by omega)
      obtain ⟨g3, g4⟩ := hG s hs
      obtain ⟨m1, m2, m3⟩ := hN i (by omega)
      refine VX5_leastAlike_2 (h := h + 2) ?_
      unfold DX5_leastAlike_2 DX5_leastAlike_43
      rw [succ32, lt32 (show i < 2147483648 by omega), lt32 (show s < 2147483648 by omega)]
      refine ⟨fun z => absurd ((le32 (by omega) (by omega)).mp z) (by omega), fun _ => ⟨ox, a 12, (hf 12 (by decide) (by decide)).1, (hf 12 (by decide) (by decide)).2.1, vi (by decide) (by decide), fun z => nx (fun al => ?_), fun _ => ⟨a 11, (hf 11 (by decide) (by decide)).1, (hf 11 (by decide) (by decide)).2.1, vi (by decide) (by decide), a 11, (hf 11 (by decide) (by decide)).1, (hf 11 (by decide) (by decide)).2.1, vs (by decide) (by decide), fun z => nx (fun al => z (by rw [g1, g3, al.1])), fun z => ?_⟩⟩⟩
      · have lt : G' i < i := by
          rcases Nat.lt_or_ge (G' i) i with y | y
          · exact y
          · exact absurd (by rw [hF i (by omega), show G' i = i by omega]) z
        exact no _ lt (m2.tr al)
      · rw [g1, g3] at z
        have eg : G i = G s := inj32 (by omega) (by omega) z
        refine S_mvAx (h := h) hO hT hY hn hG oc eo (by omega) hs (fun r hr hi' _ => ⟨r, rfl, fun z0 => nx (fun al => ?_), fun nz => K i (by omega) ⟨eg, hi'.mp (hr.resolve_left nz)⟩ no⟩)
        rw [hi'.mpr al.2] at z0
        exact absurd z0 (by decide)
  refine KX5_leastAlike (h := h + 2) ?_
  unfold DX5_leastAlike_0
  exact main s 0 (by omega) (fun q hq => absurd hq (Nat.not_lt_zero _))
/-- all are parted -/
theorem S_grAx (hO : ScO M x c t a) (hT : TiC M x t a Y) (hY : OkX t Y) (hn : n = Y.1.length) (oc : ok M c 3) (hx : c ≠ x) (eo : mI M c 11 = o) (z0 : ∀ s, s < n → mAI M (a 11) s = 0) (K : ∀ M' G, GmF x noP (fun r => r = a 11 ∨ r = a 12) M M' → CgC M' a n G → GFn Y o t n G → Q none M') : E (h + 4) mdX5_groupAlike [.ref x] M Q := by
  have n48 : n ≤ 48 := by rw [hn]; exact hY.1.2
  have n1 : 1 ≤ n := by rw [hn]; exact hY.1.1
  have c1 : mI M x 3 = Int32.ofNat n := by rw [hn]; exact hT.1
  have keep : ∀ M1, GmF x noP (fun r => r = a 11 ∨ r = a 12) M M1 → ScO M1 x c t a ∧ TiC M1 x t a Y ∧ ok M1 c 3 ∧ mI M1 x 3 = Int32.ofNat n ∧ mI M1 c 11 = o := fun M1 k => ⟨hO.gm k (fun z => z), hT.k (k.2.2.2.1 3 (fun z => z)) (fun f f1 f2 => k.2.2.2.2 (a f) (fun z => z.elim (hO.ne f1 (by omega) (by decide) (by decide) (by omega)) (hO.ne f1 (by omega) (by decide) (by decide) (by omega)))), k.ok oc, by rw [k.2.2.2.1 3 (fun z => z)]; exact c1, by rw [k.2.2.1 c hx]; exact eo⟩
  have ln : (Int32.ofNat n).toNatClampNeg = n := lt32 (by omega)
  have l4 : ∀ d r (x1 : Int32) G M1, r + d = 49 → GmF x noP (fun r => r = a 11 ∨ r = a 12) M M1 → CgC M1 a n G → GRn Y o t n r G → ((x1 = 0 ∧ Nx1 Y o t n G G) ∨ (x1 = 1 ∧ r + 1 ≤ cnG G n)) → T (h + 4) mdX5_groupAlike 4 [(0, .ref x), (1, .int x1), (2, .int (Int32.ofNat r))] [] M1 Q := by
    intro d
    induction d with
    | zero =>
      intro r x1 G M1 hr k1 hG gr fl
      have er : r = 49 := hr
      have le := cnG_le (G := G) n
      rcases fl with ⟨-, st⟩ | ⟨-, fl⟩
      · subst er
        refine VX5_groupAlike_4 (h := h + 3) ?_
        unfold DX5_groupAlike_4 DX5_groupAlike_91
        exact ⟨fun _ => K M1 G k1 hG ⟨49, gr, st⟩, fun z => absurd (by decide) z⟩
      · omega
    | succ d ih =>
      intro r x1 G M1 hr k1 hG gr fl
      have l18 : ∀ e s (x1 : Int32) G' M2, s + e = n → GmF x noP (fun r => r = a 11 ∨ r = a 12) M M2 → mAI M2 (a 11) = mAI M1 (a 11) → (∀ q, q < s → mAI M2 (a 12) q = Int32.ofNat (G' q)) → Nx1 Y o t s G G' → ((x1 = 0 ∧ ∀ q, q < s → G' q = G q) ∨ (x1 = 1 ∧ ∃ q, q < s ∧ G' q ≠ G q)) → T (h + 4) mdX5_groupAlike 18 [(0, .ref x), (1, .int x1), (2, .int (Int32.ofNat r)), (3, .int (Int32.ofNat s))] [] M2 Q := by
        intro e
        induction e with
        | zero =>
          intro s x1 G' M2 hs k2 r2 f2 nx fl2
          have es : s = n := hs
          subst es
          obtain ⟨O2, T2, oc2, e32, eo2⟩ := keep M2 k2
          refine VX5_groupAlike_18 (h := h + 3) ?_
          unfold DX5_groupAlike_18
          rw [e32, ln, succ32]
          refine ⟨O2.1.1, fun _ => ⟨a 12, (O2.2.1 12 (by decide) (by decide)).1, a 11, (O2.2.1 11 (by decide) (by decide)).1, (O2.2.1 12 (by decide) (by decide)).2.1, (O2.2.1 11 (by decide) (by decide)).2.1, ⟨by decide, by decide, nn32 n48, ?_, ?_⟩, fun M6 e6 => ?_⟩, fun z => absurd Int32.le_rfl z⟩
          · rw [O2.l48 (by decide) (by decide) (by decide) (by decide)]; show 0 + s ≤ 48; omega
          · rw [O2.l48 (by decide) (by decide) (by decide) (by decide)]; show 0 + s ≤ 48; omega
          · have G6 : CgC M6 a s G' := fun q hq => ⟨by rw [e6]; exact (wCp_at hq).trans (f2 q hq), (nx q hq).1⟩
            refine ih (r + 1) x1 G' M6 (by omega) (k2.tr (GmF.cpn (Or.inl rfl) e6)) G6 ⟨G, gr, nx⟩ ?_
            rcases fl2 with ⟨f1, fe⟩ | ⟨f1, fe⟩
            · exact Or.inl ⟨f1, nx.cl hY hn (fun q hq => (fe q hq).symm)⟩
            · have mo := Nx1.mo (GRn.re r G n1 gr) nx fe
              rcases fl with ⟨-, st⟩ | ⟨-, fl⟩
              · obtain ⟨q, hq, ne⟩ := fe
                exact absurd (Nx1.cg hY hn (fun _ _ => rfl) nx st q hq) ne
              · exact Or.inr ⟨f1, by omega⟩
        | succ e ihe =>
          intro s x1 G' M2 hs k2 r2 f2 nx fl2
          obtain ⟨O2, T2, oc2, e32, eo2⟩ := keep M2 k2
          have sn : s < n := by omega
          have ls : (Int32.ofNat s).toNatClampNeg = s := lt32 (by omega)
          have G2 : CgC M2 a n G := fun q hq => by rw [r2]; exact hG q hq
          refine VX5_groupAlike_18 (h := h + 3) ?_
          unfold DX5_groupAlike_18 DX5_groupAlike_56 DX5_groupAlike_61
          rw [e32, succ32, succ32, ls]
          refine ⟨O2.1.1, fun z => absurd ((le32 (by omega) (by omega)).mp z) (by omega), fun _ => ⟨a 12, (O2.2.1 12 (by decide) (by decide)).1, S_lstx (h := h) (G' := G') O2 T2 hY hn G2 oc2 eo2 sn f2 nx (fun c9 c1' c2' c3' _ => ⟨_, rfl, (O2.2.1 12 (by decide) (by decide)).2.1, by rw [O2.l48 (by decide) (by decide) (by decide) (by decide)]; exact vp_of (by omega) (by decide), fun M11 e11 => ?_⟩)⟩⟩
          have k11 : GmF x noP (fun r => r = a 11 ∨ r = a 12) M M11 := k2.tr (GmF.a (Or.inr rfl) e11)
          obtain ⟨O11, -, -, -, -⟩ := keep M11 k11
          have v11 : ∀ {f : Nat}, 11 ≤ f → f ≤ 12 → vp_in (Int32.ofNat s) (mL M11 (a f)) := fun f1 f2 => by rw [O11.l48 (by omega) f2 (by omega) (by omega)]; exact vp_of (by omega) (by decide)
          obtain ⟨H, eH⟩ : ∃ H : Nat → Nat, H = fun q => if q = s then c9 else G' q := ⟨_, rfl⟩
          have Hs : H s = c9 := by rw [eH]; exact if_pos rfl
          have Hq : ∀ q, q ≠ s → H q = G' q := fun q hq => by rw [eH]; exact if_neg hq
          have r11 : mAI M11 (a 11) = mAI M1 (a 11) := (aiN e11 (hO.ne (by decide) (by decide) (by decide) (by decide) (by decide))).trans r2
          have f11 : ∀ q, q < s + 1 → mAI M11 (a 12) q = Int32.ofNat (H q) := fun q hq => by
            rw [wr_j e11]
            by_cases z : q = s
            · rw [if_pos z, z, Hs]
            · rw [if_neg z, Hq q z]; exact f2 q (by omega)
          have nx11 : Nx1 Y o t (s + 1) G H := fun q hq => by
            by_cases z : q = s
            · rw [z, Hs]; exact ⟨c1', c2', c3'⟩
            · rw [Hq q z]; exact nx q (by omega)
          have go : ∀ x1 : Int32, ((x1 = 0 ∧ ∀ q, q < s + 1 → H q = G q) ∨ (x1 = 1 ∧ ∃ q, q < s + 1 ∧ H q ≠ G q)) → T (h + 4) mdX5_groupAlike 18 [(0, .ref x), (1, .int x1), (2, .int (Int32.ofNat r)), (3, .int (Int32.ofNat (s + 1)))] [] M11 Q := fun x1 f => ihe (s + 1) x1 H M11 (by omega) k11 r11 f11 nx11 f
          have x12 : mAI M11 (a 12) s = Int32.ofNat c9 := by rw [f11 s (by omega), Hs]
          have x11 : mAI M11 (a 11) s = Int32.ofNat (G s) := by rw [r11]; exact (hG s sn).1
          have gs := (hG s sn).2
          refine ⟨fun nz => go 1 (Or.inr ⟨rfl, ?_⟩), fun z => ⟨a 12, (O11.2.1 12 (by decide) (by decide)).1, (O11.2.1 12 (by decide) (by decide)).2.1, v11 (by decide) (by decide), a 11, (O11.2.1 11 (by decide) (by decide)).1, (O11.2.1 11 (by decide) (by decide)).2.1, v11 (by decide) (by decide), fun eq => go 0 (Or.inl ⟨rfl, fun q hq => ?_⟩), fun ne => go 1 (Or.inr ⟨rfl, s, by omega, fun y => ne ?_⟩)⟩⟩
          · rcases fl2 with f | ⟨-, q, hq, nq⟩
            · exact absurd f.1 nz
            · exact ⟨q, by omega, by rw [Hq q (by omega)]; exact nq⟩
          · rw [x12, x11] at eq
            have e9 : c9 = G s := inj32 (by omega) (by omega) eq
            by_cases y : q = s
            · rw [y, Hs, e9]
            · rw [Hq q y]
              rcases fl2 with ⟨-, f⟩ | ⟨f, -⟩
              · exact f q (by omega)
              · rw [f] at z; exact absurd z (by decide)
          · rw [x12, x11, ← Hs, y]
      refine VX5_groupAlike_4 (h := h + 3) ?_
      unfold DX5_groupAlike_4 DX5_groupAlike_91
      refine ⟨fun z => absurd ((ltn32 (a := 48) (by decide) (by omega)).mp z) (by omega), fun _ => ⟨fun z => K M1 G k1 hG ⟨r, gr, ?_⟩, fun _ => l18 n 0 0 G M1 (by omega) k1 rfl (fun q hq => absurd hq (Nat.not_lt_zero _)) (fun q hq => absurd hq (Nat.not_lt_zero _)) (Or.inl ⟨rfl, fun q hq => absurd hq (Nat.not_lt_zero _)⟩)⟩⟩
      rcases fl with ⟨-, st⟩ | ⟨f, -⟩
      · exact st
      · rw [f] at z; exact absurd z (by decide)
  refine KX5_groupAlike (h := h + 3) ?_
  unfold DX5_groupAlike_0
  refine l4 49 0 1 (fun _ => 0) M (by omega) GmF.rf (fun q hq => ⟨z0 q hq, Nat.zero_le _⟩) (fun _ _ => rfl) (Or.inr ⟨rfl, ?_⟩)
  have : ∀ k, 1 ≤ k → 1 ≤ cnG (fun _ => 0) k := by
    intro k
    induction k with
    | zero => intro hk; exact absurd hk (by decide)
    | succ k ih =>
      intro _
      show 1 ≤ cnG (fun _ => 0) k + (if 0 = k then 1 else 0)
      by_cases z : k = 0
      · rw [z]; exact Nat.le_refl _
      · have := ih (by omega); omega
  exact this n n1
end
