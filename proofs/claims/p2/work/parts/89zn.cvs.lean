/-! the class reads parts: behind a fault -/
theorem bE {x y : Int32} : (x == y) = decide (x = y) := rfl
section
variable {n0 : Nat} {τ : Td} {M0 M M' : Mem} {ps : List Nat} {tl : List Int64} {f c : Int32} {p t t' h B a x j : Nat} {Q : Option Value → Mem → Prop} {k : Int32} {W : Nat}
theorem S_stays (H : Q (some (.int (if opnK k = true then 1 else 0))) M) : E (h + 1) mdX4_staysOpen [.int k] M Q := by
  refine KX4_staysOpen ?_
  unfold DX4_staysOpen_0
  refine ⟨fun z => ⟨Or.inr rfl, ?_⟩, fun z => ⟨Or.inr rfl, ?_⟩, fun z => ⟨Or.inr rfl, ?_⟩, fun z => ⟨Or.inr rfl, ?_⟩, fun z => ⟨Or.inr rfl, ?_⟩, fun z => ⟨Or.inr rfl, ?_⟩, fun z => ⟨Or.inr rfl, ?_⟩, fun z => ⟨Or.inr rfl, ?_⟩, fun z => ⟨Or.inr rfl, ?_⟩, fun z => ⟨Or.inl rfl, ?_⟩⟩
  all_goals first
    | (rw [if_pos (by rw [z]; decide)] at H; exact H)
    | (rw [if_neg (by unfold opnK; simp only [bE, z, decide_false, Bool.or_self]; decide)] at H; exact H)
def sal (k : Int32) : Prop := (¬ k < 37 ∧ k ≤ 41) ∨ k = 47 ∨ k = 57
theorem S_alone (H1 : sal k → Q (some (.int 1)) M) (H0 : ¬ sal k → Q (some (.int 0)) M) : E (h + 1) mdX4_standsAlone [.int k] M Q := by
  refine KX4_standsAlone ?_
  unfold DX4_standsAlone_0 DX4_standsAlone_12 DX4_standsAlone_24 DX4_standsAlone_29
  have w : (¬ ((¬ k < 37) ∧ k ≤ 41)) → ((k = 47 → ((1 : Int32) = 0 ∨ (1 : Int32) = 1) ∧ Q (some (.int 1)) M) ∧ (¬ k = 47 → (¬ k = 57 → ((0 : Int32) = 0 ∨ (0 : Int32) = 1) ∧ Q (some (.int 0)) M) ∧ (k = 57 → ((1 : Int32) = 0 ∨ (1 : Int32) = 1) ∧ Q (some (.int 1)) M))) := fun y => ⟨fun z => ⟨Or.inr rfl, H1 (Or.inr (Or.inl z))⟩, fun z => ⟨fun z2 => ⟨Or.inl rfl, H0 (by rintro (q | q | q) <;> first | exact y q | exact z q | exact z2 q)⟩, fun z2 => ⟨Or.inr rfl, H1 (Or.inr (Or.inr z2))⟩⟩⟩
  exact ⟨fun z => w (fun y => y.1 z), fun z => ⟨fun z2 => ⟨Or.inr rfl, H1 (Or.inl ⟨z, z2⟩)⟩, fun z2 => w (fun y => z2 y.2)⟩⟩
theorem S_pauses (H : Q (some (.int (Int32.ofNat (paK k)))) M) : E (h + 1) mdX4_pausesOf [.int k] M Q := by
  refine KX4_pausesOf ?_
  unfold DX4_pausesOf_0
  refine ⟨fun z => ?_, fun z => ?_, fun z => ?_, fun z => ?_, fun z => ?_, fun z => ?_, fun z => ?_, fun z => ?_, fun z => ?_, fun z => ?_, fun z => ?_, fun z => ?_, fun z => ?_, fun z => ?_, fun z => ?_, fun z => ?_, fun z => ?_⟩
  all_goals first
    | (rw [show paK k = 0 by rw [z]; decide] at H; exact H)
    | (rw [show paK k = 1 by rw [z]; decide] at H; exact H)
    | (rw [show paK k = 3 by rw [z]; decide] at H; exact H)
    | skip
  have hn : ∀ y : Int32, 38 ≤ y.toInt → y.toInt ≤ 53 → k ≠ y := fun y q1 q2 q => by rw [q] at z; omega
  have e : paK k = 0 := by
    unfold paK
    rw [if_neg (hn 53 (by decide) (by decide)), if_neg]
    rintro (q | q | q | q | q | q)
    · exact hn 38 (by decide) (by decide) q
    · exact hn 39 (by decide) (by decide) q
    · exact hn 41 (by decide) (by decide) q
    · exact hn 47 (by decide) (by decide) q
    · exact hn 49 (by decide) (by decide) q
    · exact hn 50 (by decide) (by decide) q
  rw [e] at H
  exact H
theorem CX.one (X : CX n0 τ M0 W B M f p ps tl t) : CX n0 τ M0 W B M f p ps tl (t + 1 - 1) ∧ CX n0 τ M0 W B M f p ps tl (Nat.max t 1) := by
  refine ⟨X, ?_⟩
  obtain ⟨h1, γ, cn, h2, h3, h4, h5, h6⟩ := X
  have := h2.trp.2.2.1.1
  exact ⟨h1, γ, cn, h2, h3, h4, Nat.max_le.mpr ⟨h5, this⟩, h6⟩
theorem V_size (X : CX n0 τ M0 W B M f p ps tl t) (H : Q (some (.int (Int32.ofNat ps.length))) M) : E (h + 1) mdJx4a65c_size_8abf5 [.ref (n0 + 7)] M Q := by
  obtain ⟨h1, γ, cn, ⟨lc, rc, cc, pb, ib, h2⟩, -⟩ := X
  exact S_alSize h2.2.2.2.1.1 H
theorem CX.al (X : CX n0 τ M0 W B M f p ps tl t) : ok M (n0 + 7) 1 := by
  obtain ⟨h1, γ, cn, ⟨lc, rc, cc, pb, ib, h2⟩, -⟩ := X
  exact h2.2.2.2.1.1.1
/-- behind a fault a part is not begun -/
theorem V_check56 (X : CX n0 τ M0 W B M f p ps tl t) (H : Q none M) : DX4_checkBegin_56 (h + 2) 14 0 M Q := by
  have F := X.1.1
  have N := X.nz
  have v85 : DX4_checkBegin_85 (h + 2) 14 M Q := by
    unfold DX4_checkBegin_85 DX4_checkBegin_94
    exact ⟨ok14 F, 15, rf14_0 F, ok15 F, V_fail X (fun _ => ⟨rfl, H⟩)⟩
  unfold DX4_checkBegin_56 DX4_checkBegin_94
  exact ⟨ok14 F, n0, N.2.2.2.2.2.1, N.2.2.1, n0 + 7, N.2.2.2.2.2.2.2.1, X.al, V_size X (fun _ => ⟨_, rfl, fun _ => v85, fun _ => S_pauses (fun _ => ⟨_, rfl, fun _ => H, fun _ => v85⟩)⟩)⟩
theorem V_check (X : CX n0 τ M0 W B M f p ps tl t) (H : Q none M) : E (h + 3) mdX4_checkBegin [.ref 14, .int 0] M Q := by
  have F := X.1.1
  refine KX4_checkBegin ?_
  unfold DX4_checkBegin_0
  refine ⟨fun _ => S_stays (fun _ => ⟨_, rfl, fun _ => V_check56 X H, fun _ => S_alone (fun _ _ => ⟨_, rfl, fun _ => V_check56 X H, fun z => absurd z (by decide)⟩) (fun _ _ => ⟨_, rfl, fun _ => V_check56 X H, fun _ => ⟨ok14 F, 15, rf14_0 F, ok15 F, V_fail X (fun _ => ⟨rfl, V_check56 X H⟩)⟩⟩)⟩), fun z => absurd z (by decide)⟩
theorem V_part {d : Int32} (X : CX n0 τ M0 W B M f p ps tl t) (H : Q (some (.int 0)) M) : E (h + 4) mdX4_readPart [.ref 14, .int d] M Q := by
  have F := X.1.1
  have e9 : mI M 15 9 = 0 := X.1.2.2.2.2.2
  refine KX4_readPart ?_
  unfold DX4_readPart_0
  refine ⟨ok14 F, 15, rf14_0 F, ok15 F, ?_⟩
  rw [e9]
  exact V_check X (fun _ => ⟨rfl, 15, rf14_0 F, ok15 F, fun z => absurd z (by rw [X.1.2.2.1]; exact X.1.2.2.2.1), fun _ => H⟩)
theorem V_hg {c : Nat} (X : CX n0 τ M0 W B M f p ps tl t) (ha : a < t) (hc : c < t) (H : ∀ M', CX n0 τ M0 W B M' f p ps tl t → Q none M') : E (h + 2) mdX8_hang [.ref 4, .int (Int32.ofNat a), .int (Int32.ofNat c)] M Q := by
  obtain ⟨Θ, hT, ht⟩ := X.trp
  exact S_hg X.1.1 hT (by omega) (by omega) (fun M' T' k => H M' (X.tree k T' (by rw [hgT_n.1]; exact ht)))
theorem V_loop26 {d q : Int32} (X : CX n0 τ M0 W B M f p ps tl t) (H : Q (some (.int q)) M) : T (h + 3) mdX4_readSeq 26 [(0, .ref 14), (1, .int d), (2, .int q), (3, .int k)] [] M Q := by
  have F := X.1.1
  refine VX4_readSeq_26 ?_
  unfold DX4_readSeq_26 DX4_readSeq_65
  exact ⟨fun _ => H, fun _ => ⟨ok14 F, 15, rf14_0 F, ok15 F, V_accept X (by decide) (fun _ => ⟨_, rfl, fun _ => H, fun z => absurd rfl z⟩)⟩⟩
theorem V_seq {d : Int32} (X : CX n0 τ M0 W B M f p ps tl t) (H : ∀ M' v t', CX n0 τ M0 W B M' f p ps tl t' → t ≤ t' → v < t' → Q (some (.int (Int32.ofNat v))) M') : E (h + 6) mdX4_readSeq [.ref 14, .int d] M Q := by
  have F := X.1.1
  refine KX4_readSeq ?_
  unfold DX4_readSeq_0
  refine ⟨ok14 F, 4, rf14_1 F, ok4 F, V_op X (fun Θ hT _ h1 => ⟨mkT Θ 5, ts_mk h1, fun Q' H' => S_mk F hT H'⟩) (fun M1 v t1 X1 ht hv _ => ⟨_, rfl, 4, rf14_1 X1.1.1, ?_⟩)⟩
  refine V_part X1 (fun _ => ⟨_, rfl, ok4 X1.1.1, V_hg (c := 0) X1 hv (by omega) (fun M2 X2 _ => ⟨rfl, V_loop26 X2 (H M2 v t1 X2 ht hv)⟩)⟩)
theorem CX.push {c : Int64} (X : CX n0 τ M0 W B M f p ps tl t) (hl : tl.length < 16) (e : M' = wI (wAJ M 20 tl.length c) 14 3 (Int32.ofNat (tl.length + 1))) : CX n0 τ M0 W B M' f p ps (c :: tl) t := by
  obtain ⟨h1, γ, cn, h2, h3⟩ := X
  exact ⟨by rw [e]; exact h1.fr ((h1.1.aj (by decide)).i) w14, γ, cn, h2.push h1.1 hl e, h3⟩
theorem CX.pop {c : Int64} (X : CX n0 τ M0 W B M f p ps (c :: tl) t) (e : M' = wI M 14 3 (mI M 14 3 - 1)) : CX n0 τ M0 W B M' f p ps tl t := by
  obtain ⟨h1, γ, cn, h2, h3⟩ := X
  exact ⟨by rw [e]; exact h1.fr h1.1.i w14, γ, cn, h2.pop h1.1 e, h3⟩
theorem CX.tls (X : CX n0 τ M0 W B M f p ps tl t) : mI M 14 3 = Int32.ofNat tl.length ∧ tl.length ≤ 16 := by
  obtain ⟨h1, γ, cn, h2, h3⟩ := X
  exact ⟨h2.rd.1.1, h2.rd.1.2.1⟩
theorem V_trapped {d : Int32} {c : Int64} (X : CX n0 τ M0 W B M f p ps tl t) (H : ∀ M' v t', CX n0 τ M0 W B M' f p ps tl t' → t ≤ t' → v < t' → Q (some (.int (Int32.ofNat v))) M') : E (h + 7) mdX4_readTrapped [.ref 14, .long c, .int d] M Q := by
  have F := X.1.1
  obtain ⟨e3, l3⟩ := X.tls
  refine KX4_readTrapped ?_
  unfold DX4_readTrapped_0
  refine ⟨ok14 F, fun z => ⟨20, rf14_2 F, ok20 F, ?_, ?_⟩, fun z => ⟨15, rf14_0 F, ok15 F, V_fail X (fun _ => ⟨rfl, H M 0 (Nat.max t 1) X.one.2 (Nat.le_max_left _ _) (Nat.lt_of_lt_of_le Nat.zero_lt_one (Nat.le_max_right _ _))⟩)⟩⟩
  · rw [e3] at z ⊢
    rw [ln20 F]
    exact vp_of ((ltn32 (b := 16) (by omega) (by decide)).mp z) (by decide)
  · rw [e3] at z
    have hl : tl.length < 16 := (ltn32 (b := 16) (by omega) (by decide)).mp z
    rw [e3, lt32 (by omega)]
    intro M4 e4 M5 e5
    have e34 : mI M4 14 3 = Int32.ofNat tl.length := by rw [e4]; exact e3
    rw [e34, succ32, e4] at e5
    have X5 := X.push hl e5
    refine V_seq X5 (fun M6 v t6 X6 ht hv _ => ⟨_, rfl, fun M8 e8 => ?_⟩)
    exact H M8 v t6 (X6.pop e8) ht hv
end
