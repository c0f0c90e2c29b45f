/-! the law's loop over pairs of calls -/
def Q_feed (h : Nat) (M : Mem) (P : Mem → Prop) : Prop := ∀ a b c d e : Int32, PrN h mdX10_feed mdX11_feed [.int a, .int b, .int c, .int d, .int e] M P
def Q_end (h : Nat) (M : Mem) (P : Mem → Prop) : Prop := ∀ a : Int32, PrN h mdX10_end mdX11_end [.int a] M P
def Q_compile (h : Nat) (M : Mem) (P : Mem → Prop) : Prop := PrN h mdX10_compile mdX11_compile [] M P
def Q_fault (h : Nat) (M : Mem) (P : Mem → Prop) : Prop := PrN h mdX10_fault mdX11_fault [] M P
def Q_module (h : Nat) (M : Mem) (P : Mem → Prop) : Prop := ∀ a b : Int32, PrN h mdX10_module mdX11_module [.int a, .int b] M P
def Q_part (h : Nat) (M : Mem) (P : Mem → Prop) : Prop := ∀ a b : Int32, PrN h mdX10_part mdX11_part [.int a, .int b] M P
def Q_governor (h : Nat) (M : Mem) (P : Mem → Prop) : Prop := ∀ a : Int32, PrN h mdX10_governor mdX11_governor [.int a] M P
def Q_give (h : Nat) (M : Mem) (P : Mem → Prop) : Prop := ∀ a b c d : Int32, PrN h mdX10_give mdX11_give [.int a, .int b, .int (if c = 0 then 0 else 1), .int d] M P
def Q_beat (h : Nat) (M : Mem) (P : Mem → Prop) : Prop := ∀ a : Int32, PrN h mdX10_beat mdX11_beat [.int a] M P
def Q_present (h : Nat) (M : Mem) (P : Mem → Prop) : Prop := ∀ a b : Int32, PrN h mdX10_present mdX11_present [.int a, .int b] M P
def Q_value (h : Nat) (M : Mem) (P : Mem → Prop) : Prop := ∀ a b : Int32, PrN h mdX10_value mdX11_value [.int a, .int b] M P
def Q_variable (h : Nat) (M : Mem) (P : Mem → Prop) : Prop := ∀ a b : Int32, PrN h mdX10_variable mdX11_variable [.int a, .int b] M P
def Q_wire (h : Nat) (M : Mem) (P : Mem → Prop) : Prop := ∀ a b c : Int32, PrN h mdX10_wire mdX11_wire [.int a, .int b, .int c] M P
def Q_told (h : Nat) (M : Mem) (P : Mem → Prop) : Prop := ∀ a b : Int32, PrN h mdX10_told mdX11_told [.int a, .int b] M P
def Q_paused (h : Nat) (M : Mem) (P : Mem → Prop) : Prop := ∀ a b : Int32, PrN h mdX10_paused mdX11_paused [.int a, .int b] M P
def Q_keep (h : Nat) (M : Mem) (P : Mem → Prop) : Prop := ∀ a : Int32, PrN h mdX10_keep mdX11_keep [.int a] M P
def Q_back (h : Nat) (M : Mem) (P : Mem → Prop) : Prop := ∀ a : Int32, PrN h mdX10_back mdX11_back [.int a] M P
def Q_same (h : Nat) (M : Mem) (P : Mem → Prop) : Prop := ∀ a b : Int32, PrN h mdX10_same mdX11_same [.int a, .int b] M P
def Q_search (h : Nat) (M : Mem) (P : Mem → Prop) : Prop := ∀ a : Int32, PrN h mdX10_search mdX11_search [.int a] M P
def Q_move (h : Nat) (M : Mem) (P : Mem → Prop) : Prop := ∀ a b c d : Int32, PrN h mdX10_move mdX11_move [.int a, .int b, .int c, .int d] M P
def Q_classOf (h : Nat) (M : Mem) (P : Mem → Prop) : Prop := ∀ a b : Int32, PrN h mdX10_classOf mdX11_classOf [.int a, .int b] M P
def Q_way (h : Nat) (M : Mem) (P : Mem → Prop) : Prop := ∀ a b c : Int32, PrN h mdX10_way mdX11_way [.int a, .int b, .int c] M P
def Q_never (h : Nat) (M : Mem) (P : Mem → Prop) : Prop := ∀ a b : Int32, PrN h mdX10_never mdX11_never [.int a, .int b] M P
def Q_always (h : Nat) (M : Mem) (P : Mem → Prop) : Prop := ∀ a b c : Int32, PrN h mdX10_always mdX11_always [.int a, .int b, .int c] M P
def Q_against (h : Nat) (M : Mem) (P : Mem → Prop) : Prop := ∀ a : Int32, Pr h mdX10_against mdX11_against [.int a] M P
def Q_count (h : Nat) (M : Mem) (P : Mem → Prop) : Prop := ∀ a : Int32, PrN h mdX10_count mdX11_count [.int a] M P
def Q_clear (h : Nat) (M : Mem) (P : Mem → Prop) : Prop := PrN h mdX10_clear mdX11_clear [] M P
def StpN (h : Nat) (M : Mem) (P : Mem → Prop) : Prop := Q_feed h M P ∧ Q_end h M P ∧ Q_compile h M P ∧ Q_fault h M P ∧ Q_module h M P ∧ Q_part h M P ∧ Q_governor h M P ∧ Q_give h M P ∧ Q_beat h M P ∧ Q_present h M P ∧ Q_value h M P ∧ Q_variable h M P ∧ Q_wire h M P ∧ Q_told h M P ∧ Q_paused h M P ∧ Q_keep h M P ∧ Q_back h M P ∧ Q_same h M P ∧ Q_search h M P ∧ Q_move h M P ∧ Q_classOf h M P ∧ Q_way h M P ∧ Q_never h M P ∧ Q_always h M P ∧ Q_against h M P ∧ Q_count h M P ∧ Q_clear h M P
set_option maxHeartbeats 2000000 in
theorem law_one {L : Nat} {xs : Nat → Int32} {h : Nat} {x3 : Int32} {M : Mem} {Q : Option Value → Mem → Prop} {P : Mem → Prop} (o0 : ok M 0 12) (o29 : ok M 29 13) (hq : (Int32.ofNat L - 6) < x3 → Q (some (.int 1)) M)
    (v0 : ¬ (Int32.ofNat L - 6) < x3 → vp_in x3 L ∧ vp_in (x3 + 1) L ∧ vp_in (x3 + 2) L ∧ vp_in (x3 + 3) L ∧ vp_in (x3 + 4) L ∧ vp_in (x3 + 5) L)
    (hs : ¬ (Int32.ofNat L - 6) < x3 → StpN h M P) (hn : ¬ (Int32.ofNat L - 6) < x3 → ∀ M', P M' → T (h + 1) (mdL L xs) 18 [(0, .ref (mBig + 0)), (1, .ref 0), (2, .ref 29), (3, .int (x3 + 6))] [] M' Q) (hid : ¬ (Int32.ofNat L - 6) < x3 → P M) : T (h + 1) (mdL L xs) 18 [(0, .ref (mBig + 0)), (1, .ref 0), (2, .ref 29), (3, .int x3)] [] M Q := by
  refine VL_law_18 ?_
  unfold DL_law_18
  refine ⟨fun hc => ⟨Or.inr rfl, hq hc⟩, fun hc => ?_⟩
  obtain ⟨v0, v1, v2, v3, v4, v5⟩ := v0 hc
  have hid := hid hc
  obtain ⟨s0, s1, s2, s3, s4, s5, s6, s7, s8, s9, s10, s11, s12, s13, s14, s15, s16, s17, s18, s19, s20, s21, s22, s23, s24, s25, s26⟩ := hs hc
  have hX : ∀ M', P M' → DL_law_1023 L xs h 0 29 x3 M' Q := hn hc
  refine ⟨v0, ?_, ?_, ?_, ?_, ?_, ?_, ?_, ?_, ?_, ?_, ?_, ?_, ?_, ?_, ?_, ?_, ?_, ?_, ?_, ?_, ?_, ?_, ?_, ?_, ?_, ?_, ?_, fun _ => hX _ hid⟩
  · intro _
    have q := s0 (xs (x3 + 1 : Int32).toNatClampNeg) (xs (x3 + 2 : Int32).toNatClampNeg) (xs (x3 + 3 : Int32).toNatClampNeg) (xs (x3 + 4 : Int32).toNatClampNeg) (xs (x3 + 5 : Int32).toNatClampNeg)
    exact ⟨v1, v2, v3, v4, v5, o0, q.imp (fun r M2 hE ⟨v, hr, h2⟩ _ => ⟨v, hr, v1, v2, v3, v4, v5, ok_E o29 hE, h2.imp (fun r M5 hE5 hp _ => ⟨hp.choose, hp.choose_spec.1, hX _ hp.choose_spec.2⟩)⟩)⟩
  · intro _
    have q := s1 (xs (x3 + 1 : Int32).toNatClampNeg)
    exact ⟨v1, o0, q.imp (fun r M2 hE ⟨v, hr, h2⟩ _ => ⟨v, hr, v1, ok_E o29 hE, h2.imp (fun r M5 hE5 hp _ => ⟨hp.choose, hp.choose_spec.1, hX _ hp.choose_spec.2⟩)⟩)⟩
  · intro _
    have q := s2 
    exact ⟨o0, q.imp (fun r M2 hE ⟨v, hr, h2⟩ _ => ⟨v, hr, ok_E o29 hE, h2.imp (fun r M5 hE5 hp _ => ⟨hp.choose, hp.choose_spec.1, hX _ hp.choose_spec.2⟩)⟩)⟩
  · intro _
    have q := s3 
    exact ⟨o0, q.imp (fun r M2 hE ⟨v, hr, h2⟩ _ => ⟨v, hr, ok_E o29 hE, h2.imp (fun r M5 hE5 hp _ => ⟨hp.choose, hp.choose_spec.1, hX _ hp.choose_spec.2⟩)⟩)⟩
  · intro _
    have q := s4 (xs (x3 + 1 : Int32).toNatClampNeg) (xs (x3 + 2 : Int32).toNatClampNeg)
    exact ⟨v1, v2, o0, q.imp (fun r M2 hE ⟨v, hr, h2⟩ _ => ⟨v, hr, v1, v2, ok_E o29 hE, h2.imp (fun r M5 hE5 hp _ => ⟨hp.choose, hp.choose_spec.1, hX _ hp.choose_spec.2⟩)⟩)⟩
  · intro _
    have q := s5 (xs (x3 + 1 : Int32).toNatClampNeg) (xs (x3 + 2 : Int32).toNatClampNeg)
    exact ⟨v1, v2, o0, q.imp (fun r M2 hE ⟨v, hr, h2⟩ _ => ⟨v, hr, v1, v2, ok_E o29 hE, h2.imp (fun r M5 hE5 hp _ => ⟨hp.choose, hp.choose_spec.1, hX _ hp.choose_spec.2⟩)⟩)⟩
  · intro _
    have q := s6 (xs (x3 + 1 : Int32).toNatClampNeg)
    exact ⟨v1, o0, q.imp (fun r M2 hE ⟨v, hr, h2⟩ _ => ⟨v, hr, v1, ok_E o29 hE, h2.imp (fun r M5 hE5 hp _ => ⟨hp.choose, hp.choose_spec.1, hX _ hp.choose_spec.2⟩)⟩)⟩
  · intro _
    refine ⟨v1, v2, v3, fun hz => ?_, fun hz => ?_⟩
    · unfold DL_law_381 DL_law_414
      have s7 := s7 (xs (x3 + 1 : Int32).toNatClampNeg) (xs (x3 + 2 : Int32).toNatClampNeg) (xs (x3 + 3 : Int32).toNatClampNeg) (xs (x3 + 4 : Int32).toNatClampNeg)
      rw [if_pos hz] at s7
      refine ⟨v4, o0, s7.imp (fun r M2 hE ⟨v, hr, h2⟩ _ => ⟨v, hr, v1, v2, v3, fun _ => ⟨v4, ok_E o29 hE, h2.imp (fun r M5 hE5 hp _ => ⟨hp.choose, hp.choose_spec.1, hX _ hp.choose_spec.2⟩)⟩, fun hz2 => absurd hz hz2⟩)⟩
    · unfold DL_law_381 DL_law_414
      have s7 := s7 (xs (x3 + 1 : Int32).toNatClampNeg) (xs (x3 + 2 : Int32).toNatClampNeg) (xs (x3 + 3 : Int32).toNatClampNeg) (xs (x3 + 4 : Int32).toNatClampNeg)
      rw [if_neg hz] at s7
      refine ⟨v4, o0, s7.imp (fun r M2 hE ⟨v, hr, h2⟩ _ => ⟨v, hr, v1, v2, v3, fun hz2 => absurd hz2 hz, fun _ => ⟨v4, ok_E o29 hE, h2.imp (fun r M5 hE5 hp _ => ⟨hp.choose, hp.choose_spec.1, hX _ hp.choose_spec.2⟩)⟩⟩)⟩
  · intro _
    have q := s8 (xs (x3 + 1 : Int32).toNatClampNeg)
    exact ⟨v1, o0, q.imp (fun r M2 hE ⟨v, hr, h2⟩ _ => ⟨v, hr, v1, ok_E o29 hE, h2.imp (fun r M5 hE5 hp _ => ⟨hp.choose, hp.choose_spec.1, hX _ hp.choose_spec.2⟩)⟩)⟩
  · intro _
    have q := s9 (xs (x3 + 1 : Int32).toNatClampNeg) (xs (x3 + 2 : Int32).toNatClampNeg)
    exact ⟨v1, v2, o0, q.imp (fun r M2 hE ⟨v, hr, h2⟩ _ => ⟨v, hr, v1, v2, ok_E o29 hE, h2.imp (fun r M5 hE5 hp _ => ⟨hp.choose, hp.choose_spec.1, hX _ hp.choose_spec.2⟩)⟩)⟩
  · intro _
    have q := s10 (xs (x3 + 1 : Int32).toNatClampNeg) (xs (x3 + 2 : Int32).toNatClampNeg)
    exact ⟨v1, v2, o0, q.imp (fun r M2 hE ⟨v, hr, h2⟩ _ => ⟨v, hr, v1, v2, ok_E o29 hE, h2.imp (fun r M5 hE5 hp _ => ⟨hp.choose, hp.choose_spec.1, hX _ hp.choose_spec.2⟩)⟩)⟩
  · intro _
    have q := s11 (xs (x3 + 1 : Int32).toNatClampNeg) (xs (x3 + 2 : Int32).toNatClampNeg)
    exact ⟨v1, v2, o0, q.imp (fun r M2 hE ⟨v, hr, h2⟩ _ => ⟨v, hr, v1, v2, ok_E o29 hE, h2.imp (fun r M5 hE5 hp _ => ⟨hp.choose, hp.choose_spec.1, hX _ hp.choose_spec.2⟩)⟩)⟩
  · intro _
    have q := s12 (xs (x3 + 1 : Int32).toNatClampNeg) (xs (x3 + 2 : Int32).toNatClampNeg) (xs (x3 + 3 : Int32).toNatClampNeg)
    exact ⟨v1, v2, v3, o0, q.imp (fun r M2 hE ⟨v, hr, h2⟩ _ => ⟨v, hr, v1, v2, v3, ok_E o29 hE, h2.imp (fun r M5 hE5 hp _ => ⟨hp.choose, hp.choose_spec.1, hX _ hp.choose_spec.2⟩)⟩)⟩
  · intro _
    have q := s13 (xs (x3 + 1 : Int32).toNatClampNeg) (xs (x3 + 2 : Int32).toNatClampNeg)
    exact ⟨v1, v2, o0, q.imp (fun r M2 hE ⟨v, hr, h2⟩ _ => ⟨v, hr, v1, v2, ok_E o29 hE, h2.imp (fun r M5 hE5 hp _ => ⟨hp.choose, hp.choose_spec.1, hX _ hp.choose_spec.2⟩)⟩)⟩
  · intro _
    have q := s14 (xs (x3 + 1 : Int32).toNatClampNeg) (xs (x3 + 2 : Int32).toNatClampNeg)
    exact ⟨v1, v2, o0, q.imp (fun r M2 hE ⟨v, hr, h2⟩ _ => ⟨v, hr, v1, v2, ok_E o29 hE, h2.imp (fun r M5 hE5 hp _ => ⟨hp.choose, hp.choose_spec.1, hX _ hp.choose_spec.2⟩)⟩)⟩
  · intro _
    have q := s15 (xs (x3 + 1 : Int32).toNatClampNeg)
    exact ⟨v1, o0, q.imp (fun r M2 hE ⟨v, hr, h2⟩ _ => ⟨v, hr, v1, ok_E o29 hE, h2.imp (fun r M5 hE5 hp _ => ⟨hp.choose, hp.choose_spec.1, hX _ hp.choose_spec.2⟩)⟩)⟩
  · intro _
    have q := s16 (xs (x3 + 1 : Int32).toNatClampNeg)
    exact ⟨v1, o0, q.imp (fun r M2 hE ⟨v, hr, h2⟩ _ => ⟨v, hr, v1, ok_E o29 hE, h2.imp (fun r M5 hE5 hp _ => ⟨hp.choose, hp.choose_spec.1, hX _ hp.choose_spec.2⟩)⟩)⟩
  · intro _
    have q := s17 (xs (x3 + 1 : Int32).toNatClampNeg) (xs (x3 + 2 : Int32).toNatClampNeg)
    exact ⟨v1, v2, o0, q.imp (fun r M2 hE ⟨v, hr, h2⟩ _ => ⟨v, hr, v1, v2, ok_E o29 hE, h2.imp (fun r M5 hE5 hp _ => ⟨hp.choose, hp.choose_spec.1, hX _ hp.choose_spec.2⟩)⟩)⟩
  · intro _
    have q := s18 (xs (x3 + 1 : Int32).toNatClampNeg)
    exact ⟨v1, o0, q.imp (fun r M2 hE ⟨v, hr, h2⟩ _ => ⟨v, hr, v1, ok_E o29 hE, h2.imp (fun r M5 hE5 hp _ => ⟨hp.choose, hp.choose_spec.1, hX _ hp.choose_spec.2⟩)⟩)⟩
  · intro _
    have q := s19 (xs (x3 + 1 : Int32).toNatClampNeg) (xs (x3 + 2 : Int32).toNatClampNeg) (xs (x3 + 3 : Int32).toNatClampNeg) (xs (x3 + 4 : Int32).toNatClampNeg)
    exact ⟨v1, v2, v3, v4, o0, q.imp (fun r M2 hE ⟨v, hr, h2⟩ _ => ⟨v, hr, v1, v2, v3, v4, ok_E o29 hE, h2.imp (fun r M5 hE5 hp _ => ⟨hp.choose, hp.choose_spec.1, hX _ hp.choose_spec.2⟩)⟩)⟩
  · intro _
    have q := s20 (xs (x3 + 1 : Int32).toNatClampNeg) (xs (x3 + 2 : Int32).toNatClampNeg)
    exact ⟨v1, v2, o0, q.imp (fun r M2 hE ⟨v, hr, h2⟩ _ => ⟨v, hr, v1, v2, ok_E o29 hE, h2.imp (fun r M5 hE5 hp _ => ⟨hp.choose, hp.choose_spec.1, hX _ hp.choose_spec.2⟩)⟩)⟩
  · intro _
    have q := s21 (xs (x3 + 1 : Int32).toNatClampNeg) (xs (x3 + 2 : Int32).toNatClampNeg) (xs (x3 + 3 : Int32).toNatClampNeg)
    exact ⟨v1, v2, v3, o0, q.imp (fun r M2 hE ⟨v, hr, h2⟩ _ => ⟨v, hr, v1, v2, v3, ok_E o29 hE, h2.imp (fun r M5 hE5 hp _ => ⟨hp.choose, hp.choose_spec.1, hX _ hp.choose_spec.2⟩)⟩)⟩
  · intro _
    have q := s22 (xs (x3 + 1 : Int32).toNatClampNeg) (xs (x3 + 2 : Int32).toNatClampNeg)
    exact ⟨v1, v2, o0, q.imp (fun r M2 hE ⟨v, hr, h2⟩ _ => ⟨v, hr, v1, v2, ok_E o29 hE, h2.imp (fun r M5 hE5 hp _ => ⟨hp.choose, hp.choose_spec.1, hX _ hp.choose_spec.2⟩)⟩)⟩
  · intro _
    have q := s23 (xs (x3 + 1 : Int32).toNatClampNeg) (xs (x3 + 2 : Int32).toNatClampNeg) (xs (x3 + 3 : Int32).toNatClampNeg)
    exact ⟨v1, v2, v3, o0, q.imp (fun r M2 hE ⟨v, hr, h2⟩ _ => ⟨v, hr, v1, v2, v3, ok_E o29 hE, h2.imp (fun r M5 hE5 hp _ => ⟨hp.choose, hp.choose_spec.1, hX _ hp.choose_spec.2⟩)⟩)⟩
  · intro _
    have q := s24 (xs (x3 + 1 : Int32).toNatClampNeg)
    exact ⟨v1, o0, q.imp (fun r M2 hE ⟨v, hr, h2⟩ _ => ⟨v, hr, v1, ok_E o29 hE, h2.imp (fun r M5 hE5 hp _ => ⟨v, hp.1, fun _ => hX _ hp.2, fun hne => absurd rfl hne⟩)⟩)⟩
  · intro _
    have q := s25 (xs (x3 + 1 : Int32).toNatClampNeg)
    exact ⟨v1, o0, q.imp (fun r M2 hE ⟨v, hr, h2⟩ _ => ⟨v, hr, v1, ok_E o29 hE, h2.imp (fun r M5 hE5 hp _ => ⟨hp.choose, hp.choose_spec.1, hX _ hp.choose_spec.2⟩)⟩)⟩
  · intro _
    have q := s26 
    exact ⟨o0, q.imp (fun r M2 hE ⟨v, hr, h2⟩ _ => ⟨v, hr, ok_E o29 hE, h2.imp (fun r M5 hE5 hp _ => ⟨hp.choose, hp.choose_spec.1, hX _ hp.choose_spec.2⟩)⟩)⟩
/-- all calls, one behind another: I k holds ahead of the k-th -/
theorem law_all {L : Nat} {xs : Nat → Int32} {h : Nat} {Q : Option Value → Mem → Prop} {I : Nat → Mem → Prop} (hL : L < 1000000) (hF : ∀ k M, I k M → Fix M) (hQ : ∀ k M, I k M → Q (some (.int 1)) M)
    (hS : ∀ k M, 6 * k + 6 ≤ L → I k M → StpN h M (I (k + 1)) ∧ I (k + 1) M) : ∀ (n k : Nat) (M : Mem), L ≤ 6 * k + n → 6 * k ≤ L + 6 → I k M → T (h + 1) (mdL L xs) 18 [(0, .ref (mBig + 0)), (1, .ref 0), (2, .ref 29), (3, .int (Int32.ofNat (6 * k)))] [] M Q := by
  intro n
  induction n using Nat.strongRecOn with
  | ind n ih =>
    intro k M hn hk hI
    have F := hF k M hI
    have hge : ¬ (Int32.ofNat L - 6) < Int32.ofNat (6 * k) → 6 * k + 6 ≤ L := by
      intro hc
      have e : Int32.ofNat L - 6 < Int32.ofNat (6 * k) ↔ (L : Int) - 6 < 6 * k := by
        have e1 : (Int32.ofNat L - 6).toInt = (L : Int) - 6 := by
          have e0 : (Int32.ofNat L).toInt = L := ti32 (by omega)
          have e6 : (6 : Int32).toInt = 6 := by decide
          rw [j_sub, e0, e6]; omega
        have e2 : (Int32.ofNat (6 * k)).toInt = ((6 * k : Nat) : Int) := ti32 (by omega)
        rw [Int32.lt_iff_toInt_lt, e1, e2]; omega
      rw [e] at hc
      omega
    refine law_one (P := I (k + 1)) (ok0 F) (ok29 F) (fun _ => hQ k M hI) (fun hc => ?_) (fun hc => (hS k M (hge hc) hI).1) (fun hc M' hI' => ?_) (fun hc => (hS k M (hge hc) hI).2)
    · have := hge hc
      clear hc hS hQ hF ih
      refine ⟨vp_of (by omega) (by omega), ?_, ?_, ?_, ?_, ?_⟩
      · show vp_in (Int32.ofNat (6 * k) + Int32.ofNat 1) L
        rw [add32]; exact vp_of (by omega) (by omega)
      · show vp_in (Int32.ofNat (6 * k) + Int32.ofNat 2) L
        rw [add32]; exact vp_of (by omega) (by omega)
      · show vp_in (Int32.ofNat (6 * k) + Int32.ofNat 3) L
        rw [add32]; exact vp_of (by omega) (by omega)
      · show vp_in (Int32.ofNat (6 * k) + Int32.ofNat 4) L
        rw [add32]; exact vp_of (by omega) (by omega)
      · show vp_in (Int32.ofNat (6 * k) + Int32.ofNat 5) L
        rw [add32]; exact vp_of (by omega) (by omega)
    · have e6 : Int32.ofNat (6 * k) + 6 = Int32.ofNat (6 * (k + 1)) := by
        rw [show 6 * (k + 1) = 6 * k + 6 by omega, Int32.ofNat_add]; rfl
      rw [e6]
      have := hge hc
      exact ih (n - 6) (by omega) (k + 1) M' (by omega) (by omega) hI'

