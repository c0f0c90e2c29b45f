/-! the law's loop over pairs of calls: one of the class, the same of the reference -/
def Pr (h : Nat) (dc dr : MD) (as : List Value) (M : Mem) (P : Mem → Prop) : Prop := E h dc (.ref 0 :: as) M (fun r M1 => ∃ v : Int32, r = some (.int v) ∧ E h dr (.ref 29 :: as) M1 (fun r2 M2 => r2 = some (.int v) ∧ P M2))
def P_feed (h : Nat) (M : Mem) (P : Mem → Prop) : Prop := ∀ a b c d e : Int32, Pr h mdX10_feed mdX11_feed [.int a, .int b, .int c, .int d, .int e] M P
def P_end (h : Nat) (M : Mem) (P : Mem → Prop) : Prop := ∀ a : Int32, Pr h mdX10_end mdX11_end [.int a] M P
def P_compile (h : Nat) (M : Mem) (P : Mem → Prop) : Prop := Pr h mdX10_compile mdX11_compile [] M P
def P_fault (h : Nat) (M : Mem) (P : Mem → Prop) : Prop := Pr h mdX10_fault mdX11_fault [] M P
def P_module (h : Nat) (M : Mem) (P : Mem → Prop) : Prop := ∀ a b : Int32, Pr h mdX10_module mdX11_module [.int a, .int b] M P
def P_part (h : Nat) (M : Mem) (P : Mem → Prop) : Prop := ∀ a b : Int32, Pr h mdX10_part mdX11_part [.int a, .int b] M P
def P_governor (h : Nat) (M : Mem) (P : Mem → Prop) : Prop := ∀ a : Int32, Pr h mdX10_governor mdX11_governor [.int a] M P
def P_give (h : Nat) (M : Mem) (P : Mem → Prop) : Prop := ∀ a b c d : Int32, Pr h mdX10_give mdX11_give [.int a, .int b, .int (if c = 0 then 0 else 1), .int d] M P
def P_beat (h : Nat) (M : Mem) (P : Mem → Prop) : Prop := ∀ a : Int32, Pr h mdX10_beat mdX11_beat [.int a] M P
def P_present (h : Nat) (M : Mem) (P : Mem → Prop) : Prop := ∀ a b : Int32, Pr h mdX10_present mdX11_present [.int a, .int b] M P
def P_value (h : Nat) (M : Mem) (P : Mem → Prop) : Prop := ∀ a b : Int32, Pr h mdX10_value mdX11_value [.int a, .int b] M P
def P_variable (h : Nat) (M : Mem) (P : Mem → Prop) : Prop := ∀ a b : Int32, Pr h mdX10_variable mdX11_variable [.int a, .int b] M P
def P_wire (h : Nat) (M : Mem) (P : Mem → Prop) : Prop := ∀ a b c : Int32, Pr h mdX10_wire mdX11_wire [.int a, .int b, .int c] M P
def P_told (h : Nat) (M : Mem) (P : Mem → Prop) : Prop := ∀ a b : Int32, Pr h mdX10_told mdX11_told [.int a, .int b] M P
def P_paused (h : Nat) (M : Mem) (P : Mem → Prop) : Prop := ∀ a b : Int32, Pr h mdX10_paused mdX11_paused [.int a, .int b] M P
def P_keep (h : Nat) (M : Mem) (P : Mem → Prop) : Prop := ∀ a : Int32, Pr h mdX10_keep mdX11_keep [.int a] M P
def P_back (h : Nat) (M : Mem) (P : Mem → Prop) : Prop := ∀ a : Int32, Pr h mdX10_back mdX11_back [.int a] M P
def P_same (h : Nat) (M : Mem) (P : Mem → Prop) : Prop := ∀ a b : Int32, Pr h mdX10_same mdX11_same [.int a, .int b] M P
def P_search (h : Nat) (M : Mem) (P : Mem → Prop) : Prop := ∀ a : Int32, Pr h mdX10_search mdX11_search [.int a] M P
def P_move (h : Nat) (M : Mem) (P : Mem → Prop) : Prop := ∀ a b c d : Int32, Pr h mdX10_move mdX11_move [.int a, .int b, .int c, .int d] M P
def P_classOf (h : Nat) (M : Mem) (P : Mem → Prop) : Prop := ∀ a b : Int32, Pr h mdX10_classOf mdX11_classOf [.int a, .int b] M P
def P_way (h : Nat) (M : Mem) (P : Mem → Prop) : Prop := ∀ a b c : Int32, Pr h mdX10_way mdX11_way [.int a, .int b, .int c] M P
def P_never (h : Nat) (M : Mem) (P : Mem → Prop) : Prop := ∀ a b : Int32, Pr h mdX10_never mdX11_never [.int a, .int b] M P
def P_always (h : Nat) (M : Mem) (P : Mem → Prop) : Prop := ∀ a b c : Int32, Pr h mdX10_always mdX11_always [.int a, .int b, .int c] M P
def P_against (h : Nat) (M : Mem) (P : Mem → Prop) : Prop := ∀ a : Int32, Pr h mdX10_against mdX11_against [.int a] M P
def P_count (h : Nat) (M : Mem) (P : Mem → Prop) : Prop := ∀ a : Int32, Pr h mdX10_count mdX11_count [.int a] M P
def P_clear (h : Nat) (M : Mem) (P : Mem → Prop) : Prop := Pr h mdX10_clear mdX11_clear [] M P
def Step (h : Nat) (M : Mem) (P : Mem → Prop) : Prop := P_feed h M P ∧ P_end h M P ∧ P_compile h M P ∧ P_fault h M P ∧ P_module h M P ∧ P_part h M P ∧ P_governor h M P ∧ P_give h M P ∧ P_beat h M P ∧ P_present h M P ∧ P_value h M P ∧ P_variable h M P ∧ P_wire h M P ∧ P_told h M P ∧ P_paused h M P ∧ P_keep h M P ∧ P_back h M P ∧ P_same h M P ∧ P_search h M P ∧ P_move h M P ∧ P_classOf h M P ∧ P_way h M P ∧ P_never h M P ∧ P_always h M P ∧ P_against h M P ∧ P_count h M P ∧ P_clear h M P
