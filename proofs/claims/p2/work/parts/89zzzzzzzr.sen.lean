/-! what is seen of the lanes: stuck, shown, set behind -/
theorem btS : ∀ k l : Fin 32, btL ((1 : Int32) <<< (Int32.ofNat k.val &&& 31)) l.val = decide (l.val = k.val) := by decide +kernel
/-- bits of f below n -/
def shM (f : Nat → Bool) : Nat → Int32
  | 0 => 0
  | n + 1 => if f n = true then shM f n ||| ((1 : Int32) <<< (Int32.ofNat n &&& 31)) else shM f n
theorem shM_b {f : Nat → Bool} {l : Nat} (hl : l < 32) : ∀ n, n ≤ 32 → btL (shM f n) l = (decide (l < n) && f l)
  | 0, _ => by
    show btL 0 l = _
    rw [btL_0]; simp
  | n + 1, hn => by
    have ih := shM_b (f := f) hl n (by omega)
    show btL (if f n = true then shM f n ||| ((1 : Int32) <<< (Int32.ofNat n &&& 31)) else shM f n) l = _
    by_cases z : f n = true
    · rw [if_pos z, btL_or, ih, btS ⟨n, by omega⟩ ⟨l, hl⟩]
      show (decide (l < n) && f l || decide (l = n)) = (decide (l < n + 1) && f l)
      by_cases e : l = n
      · rw [e, z]; simp
      · rw [decide_eq_false e, Bool.or_false]
        by_cases y : l < n
        · rw [decide_eq_true y, decide_eq_true (show l < n + 1 by omega)]
        · rw [decide_eq_false y, decide_eq_false (show ¬ l < n + 1 by omega)]
    · rw [if_neg z, ih]
      by_cases e : l = n
      · have z : f l = false := by
          rw [e]
          cases hf : f n with
          | true => exact absurd hf z
          | false => rfl
        rw [z]; simp
      · by_cases y : l < n
        · rw [decide_eq_true y, decide_eq_true (show l < n + 1 by omega)]
        · rw [decide_eq_false y, decide_eq_false (show ¬ l < n + 1 by omega)]
theorem shM_cg {f g : Nat → Bool} : ∀ n, (∀ k, k < n → f k = g k) → shM f n = shM g n
  | 0, _ => rfl
  | n + 1, h => by
    show (if f n = true then shM f n ||| _ else shM f n) = (if g n = true then shM g n ||| _ else shM g n)
    rw [h n (by omega), shM_cg n (fun k hk => h k (by omega))]
theorem shM_more {f : Nat → Bool} {n : Nat} : ∀ d, (∀ k, n ≤ k → k < n + d → f k = false) → shM f (n + d) = shM f n
  | 0, _ => rfl
  | d + 1, h => by
    show (if f (n + d) = true then shM f (n + d) ||| _ else shM f (n + d)) = _
    rw [h (n + d) (by omega) (by omega), if_neg (by decide)]
    exact shM_more d (fun k h1 h2 => h k h1 (by omega))
section
variable {M : Mem} {x lc rc ya na : Nat} {N : Nt} {Y Z : Nat → Int32} {h l : Nat} {Q : Option Value → Mem → Prop}
theorem S_stuck (hL : CrL M x lc rc ya na N Y Z) (K : ∀ r, (∀ l, l < 32 → (btL r l = true ↔ ∃ n, n < N.length ∧ laV N.length Y Z l n = 2)) → Q (some (.int r)) M) : E (h + 1) mdX0_stuckLanes [.ref x] M Q := by
  obtain ⟨⟨o1, c1, o2, c2, o3, i1, -⟩, ⟨r1, r2, r3, r4⟩, ⟨s1, s2, s3, s4⟩, ⟨y1, y2⟩, -, n6⟩ := id hL
  have main : ∀ (d n : Nat) (w : Int32), n + d = N.length → (∀ l, l < 32 → (btL w l = true ↔ ∃ j, j < n ∧ laV N.length Y Z l j = 2)) → T (h + 1) mdX0_stuckLanes 4 [(0, .ref x), (1, .int w), (2, .int (Int32.ofNat n))] [] M Q := by
    intro d
    induction d with
    | zero =>
      intro n w hn hw
      refine VX0_stuckLanes_4 ?_
      unfold DX0_stuckLanes_4
      rw [i1, show n = N.length by omega]
      refine ⟨o1, fun _ => K w (fun l hl => ?_), fun z => absurd Int32.le_rfl z⟩
      rw [hw l hl, show n = N.length by omega]
    | succ d ih =>
      intro n w hn hw
      have nl : n < N.length := by omega
      refine VX0_stuckLanes_4 ?_
      unfold DX0_stuckLanes_4
      rw [i1, lt32 (show n < 2147483648 by omega), succ32]
      refine ⟨o1, fun z => ?_, fun _ => ⟨ya, r1, r2, vp_of (by omega) (by omega), na, s1, s2, vp_of (by omega) (by omega), ?_⟩⟩
      · have := (le32 (by omega) (by omega)).mp z
        omega
      rw [y1, y2]
      refine ih (n + 1) _ (by omega) (fun l hl => ?_)
      rw [btL_or, btL_n hl, btL_or, Bool.or_eq_true, hw l hl]
      have e : ((!(btL (Y n) l || btL (Z n) l)) = true) ↔ laV N.length Y Z l n = 2 := by
        unfold laV
        rw [if_pos nl]
        cases btL (Y n) l <;> cases btL (Z n) l <;> simp
      rw [e]
      refine ⟨?_, ?_⟩
      · rintro (⟨j, j1, j2⟩ | q)
        · exact ⟨j, by omega, j2⟩
        · exact ⟨n, by omega, q⟩
      · rintro ⟨j, j1, j2⟩
        by_cases z : j = n
        · rw [z] at j2; exact Or.inr j2
        · exact Or.inl ⟨j, by omega, j2⟩
  refine KX0_stuckLanes ?_
  unfold DX0_stuckLanes_0
  exact main N.length 0 0 (by omega) (fun l hl => ⟨fun e => by rw [btL_0] at e; exact absurd e (by decide), fun ⟨j, j1, _⟩ => absurd j1 (Nat.not_lt_zero _)⟩)
theorem S_shown {sc : Nat} {g : Nat → Nat} (hL : CrL M x lc rc ya na N Y Z) (hC : CoL N.length Y Z) (hl : l < 32) (f13 : mR M x 13 = some sc) (os : ok M sc 21) (ls : mL M sc = 16) (es : ∀ s, s < 16 → mAI M sc s = Int32.ofNat (g s) ∧ g s < 2 * N.length) (H : Q (some (.int (shM (fun s => decide (lvN (laV N.length Y Z l) (g s) = 1)) 16))) M) : E (h + 3) mdX0_shownIn [.ref x, .int (Int32.ofNat l)] M Q := by
  have main : ∀ (d s : Nat), s + d = 16 → T (h + 3) mdX0_shownIn 4 [(0, .ref x), (1, .int (Int32.ofNat l)), (2, .int (shM (fun s => decide (lvN (laV N.length Y Z l) (g s) = 1)) s)), (3, .int (Int32.ofNat s))] [] M Q := by
    intro d
    induction d with
    | zero =>
      intro s hs
      refine VX0_shownIn_4 (h := h + 2) ?_
      unfold DX0_shownIn_4
      refine ⟨hL.1.1, sc, f13, os, ?_⟩
      rw [ls, show s = 16 by omega]
      exact ⟨fun _ => H, fun z => absurd Int32.le_rfl z⟩
    | succ d ih =>
      intro s hs
      obtain ⟨e1, e2⟩ := es s (by omega)
      have nx := ih (s + 1) (by omega)
      have er : shM (fun s => decide (lvN (laV N.length Y Z l) (g s) = 1)) (s + 1) = if decide (lvN (laV N.length Y Z l) (g s) = 1) = true then shM (fun s => decide (lvN (laV N.length Y Z l) (g s) = 1)) s ||| ((1 : Int32) <<< (Int32.ofNat s &&& 31)) else shM (fun s => decide (lvN (laV N.length Y Z l) (g s) = 1)) s := rfl
      rw [er] at nx
      refine VX0_shownIn_4 (h := h + 2) ?_
      unfold DX0_shownIn_4 DX0_shownIn_33
      rw [lt32 (show s < 2147483648 by omega), succ32]
      refine ⟨hL.1.1, sc, f13, os, fun z => ?_, fun _ => ⟨sc, f13, os, by rw [ls]; exact vp_of (by omega) (by decide), ?_⟩⟩
      · rw [ls] at z
        have := (le32 (a := 16) (by decide) (by omega)).mp z
        omega
      rw [e1]
      refine S_isOn (h := h) hL hC e2 hl (fun _ => ⟨_, rfl, fun z => ?_, fun z => ?_⟩)
      · have n1 : ¬ lvN (laV N.length Y Z l) (g s) = 1 := fun e => by rw [if_pos e] at z; exact absurd z (by decide)
        rw [if_neg (by rw [decide_eq_true_eq]; exact n1)] at nx
        exact nx
      · have y1 : lvN (laV N.length Y Z l) (g s) = 1 := by
          by_cases e : lvN (laV N.length Y Z l) (g s) = 1
          · exact e
          · rw [if_neg e] at z; exact absurd rfl z
        rw [if_pos (decide_eq_true y1)] at nx
        exact nx
  refine KX0_shownIn (h := h + 2) ?_
  unfold DX0_shownIn_0
  exact main 16 0 (by omega)
/-- a pause is set behind the beat -/
def stB (v : Nat → Nat) (set : Int32) (g s k : Nat → Nat) (p : Nat) : Bool := decide (¬ lvN v (k p) = 1 ∧ (lvN v (g p) = 1 ∨ (lvN v (s p) = 1 ∧ btL set p = true)))
theorem S_setB {c9 c10 c11 pz : Nat} {g s k : Nat → Nat} {set : Int32} (hL : CrL M x lc rc ya na N Y Z) (hC : CoL N.length Y Z) (hl : l < 32) (f12 : mI M x 12 = Int32.ofNat pz) (hp : pz ≤ 24) (f9 : mR M x 9 = some c9 ∧ ok M c9 21 ∧ mL M c9 = 24) (f10 : mR M x 10 = some c10 ∧ ok M c10 21 ∧ mL M c10 = 24) (f11 : mR M x 11 = some c11 ∧ ok M c11 21 ∧ mL M c11 = 24) (eg : ∀ p, p < pz → mAI M c9 p = Int32.ofNat (g p) ∧ g p < 2 * N.length) (es : ∀ p, p < pz → mAI M c10 p = Int32.ofNat (s p) ∧ s p < 2 * N.length) (ek : ∀ p, p < pz → mAI M c11 p = Int32.ofNat (k p) ∧ k p < 2 * N.length) (H : Q (some (.int (shM (stB (laV N.length Y Z l) set g s k) pz))) M) : E (h + 3) mdX0_setBehind [.ref x, .int (Int32.ofNat l), .int set] M Q := by
  obtain ⟨v, ev⟩ : ∃ v, v = laV N.length Y Z l := ⟨_, rfl⟩
  rw [← ev] at H
  have main : ∀ (d p : Nat), p + d = pz → T (h + 3) mdX0_setBehind 5 [(0, .ref x), (1, .int (Int32.ofNat l)), (2, .int set), (3, .int (shM (stB v set g s k) p)), (4, .int (Int32.ofNat p))] [] M Q := by
    intro d
    induction d with
    | zero =>
      intro p hpp
      refine VX0_setBehind_5 (h := h + 2) ?_
      unfold DX0_setBehind_5
      rw [f12, show p = pz by omega]
      exact ⟨hL.1.1, fun _ => H, fun z => absurd Int32.le_rfl z⟩
    | succ d ih =>
      intro p hpp
      have lp : (Int32.ofNat p).toNatClampNeg = p := lt32 (by omega)
      have nx := ih (p + 1) (by omega)
      have er : shM (stB v set g s k) (p + 1) = if stB v set g s k p = true then shM (stB v set g s k) p ||| ((1 : Int32) <<< (Int32.ofNat p &&& 31)) else shM (stB v set g s k) p := rfl
      rw [er] at nx
      have no : stB v set g s k p = false → DX0_setBehind_87 (h + 2) x (Int32.ofNat l) set (shM (stB v set g s k) p) (Int32.ofNat p) M Q := fun e => by
        unfold DX0_setBehind_87
        rw [succ32]
        rw [e, if_neg (by decide)] at nx
        exact nx
      have yes : stB v set g s k p = true → DX0_setBehind_80 (h + 2) x (Int32.ofNat l) set (shM (stB v set g s k) p) (Int32.ofNat p) M Q := fun e => by
        unfold DX0_setBehind_80 DX0_setBehind_87
        rw [succ32]
        rw [e, if_pos rfl] at nx
        exact nx
      have is1 : ∀ {a : Nat} {z : Int32}, z = (if lvN v a = 1 then 1 else 0) → (z = 0 ↔ ¬ lvN v a = 1) := fun {a z} e => by
        rw [e]
        by_cases y : lvN v a = 1
        · rw [if_pos y]; exact ⟨fun q => absurd q (by decide), fun q => absurd y q⟩
        · rw [if_neg y]; exact ⟨fun _ => y, fun _ => rfl⟩
      have vp : ∀ {z : Nat}, z = 24 → vp_in (Int32.ofNat p) z := fun e => by rw [e]; exact vp_of (by omega) (by decide)
      obtain ⟨g1, g2⟩ := eg p (by omega)
      obtain ⟨s1, s2⟩ := es p (by omega)
      obtain ⟨k1, k2⟩ := ek p (by omega)
      -- behind the look at what stays
      have b43 : ∀ (b : Int32), ((b = 1 ∧ lvN v (s p) = 1 ∧ btL set p = true) ∨ (b = 0 ∧ ¬ (lvN v (s p) = 1 ∧ btL set p = true))) → DX0_setBehind_43 (h + 2) x (Int32.ofNat l) set (shM (stB v set g s k) p) (Int32.ofNat p) b M Q := fun b hb => by
        unfold DX0_setBehind_43
        rw [lp]
        refine ⟨hL.1.1, c11, f11.1, f11.2.1, vp f11.2.2, ?_⟩
        rw [k1]
        refine S_isOn (h := h) hL hC k2 hl (fun _ => ⟨_, rfl, ?_⟩)
        rw [← ev, is1 rfl]
        refine ⟨fun z => ?_, fun z => ⟨c9, f9.1, f9.2.1, vp f9.2.2, ?_⟩⟩
        · refine no (decide_eq_false (fun q => z q.1))
        rw [g1]
        refine S_isOn (h := h) hL hC g2 hl (fun _ => ⟨_, rfl, ?_⟩)
        rw [← ev, is1 rfl]
        refine ⟨fun y => ?_, fun y => ⟨fun bz => ?_, fun bz => ?_⟩⟩
        · refine yes (decide_eq_true ⟨z, Or.inl ?_⟩)
          by_cases e : lvN v (g p) = 1
          · exact e
          · exact absurd e y
        · rcases hb with ⟨q1, -⟩ | ⟨-, q2⟩
          · rw [q1] at bz; exact absurd bz (by decide)
          · exact no (decide_eq_false (fun q => q.2.elim y q2))
        · rcases hb with ⟨-, q2⟩ | ⟨q1, -⟩
          · exact yes (decide_eq_true ⟨z, Or.inr q2⟩)
          · exact absurd q1 bz
      refine VX0_setBehind_5 (h := h + 2) ?_
      unfold DX0_setBehind_5 DX0_setBehind_42
      rw [f12, lp]
      refine ⟨hL.1.1, fun z => ?_, fun _ => ⟨c10, f10.1, f10.2.1, vp f10.2.2, ?_⟩⟩
      · have := (le32 (by omega) (by omega)).mp z
        omega
      rw [s1]
      refine S_isOn (h := h) hL hC s2 hl (fun _ => ⟨_, rfl, ?_⟩)
      rw [← ev, is1 rfl, ub_0 (by omega)]
      refine ⟨fun z => b43 0 (Or.inr ⟨rfl, fun q => z q.1⟩), fun z => ⟨fun y => b43 0 (Or.inr ⟨rfl, fun q => ?_⟩), fun y => b43 1 (Or.inl ⟨rfl, ?_, ?_⟩)⟩⟩
      · rw [y] at q; exact absurd q.2 (by decide)
      · by_cases e : lvN v (s p) = 1
        · exact e
        · exact absurd e z
      · cases hb : btL set p with
        | true => rfl
        | false => exact absurd hb y
  refine KX0_setBehind (h := h + 2) ?_
  unfold DX0_setBehind_0
  exact main pz 0 (by omega)
end
