/-! the start: the run of both constructors -/
def run4 : Option Mm := fX10_init 2000 (nO [] 10 [.null, .null, .int 0, .null, .null, .null, .null, .null, .null, .null]) 0
def run8 : Option Mm := run4.bind fun M4 => fX11_init 2000 (nO M4 11 [.null, .null, .int 0, .null, .null, .null, .null, .null, .null, .null, .int 0, .int 0, .int 0, .int 0, .int 0, .null, .null, .null, .null, .null, .null, .int 0, .int 0, .int 0, .int 0]) 137
def nowB (M : Mm) (b : Nat) : Bool := obB M b 6 (soF b 0 1) && (alR 13 (fun i => rwB M (b + ro i) (rc i) (s0r i)) && (rfB M (b + 13) 2 9 (fun g => alR 9 (fun u => decide (g u = none))) && rfB M (b + 14) 3 12 (fun g => alR 12 (fun u => decide (g u = none)))))
theorem nowB_ok {M : Mm} {b : Nat} (q : Qn M) (h : nowB M b = true) : NowAt M b S0 := by
  obtain ⟨h1, h⟩ := Bool.and_eq_true_iff.mp h
  obtain ⟨h2, h⟩ := Bool.and_eq_true_iff.mp h
  obtain ⟨h3, h4⟩ := Bool.and_eq_true_iff.mp h
  obtain ⟨g, a1, a2⟩ := rfB_ok h3
  obtain ⟨g', b1, b2⟩ := rfB_ok h4
  refine ⟨obB_ok h1, fun i hi => rwB_ok (alR_ok h2 i hi), ⟨g, a1, fun u hu => show g u = none from of_decide_eq_true (alR_ok a2 u hu)⟩, g', b1, ⟨Nat.zero_le _, fun c _ => ?_⟩, fun c hc => absurd hc (Nat.not_lt_zero c)⟩
  rcases Nat.lt_or_ge c 12 with z | z
  · exact of_decide_eq_true (alR_ok b2 c z)
  · exact q _ _ _ _ c b1 z
def tpB (M : Mm) (t : Nat) : Bool := obB M t 7 [.ref (t + 1), .ref (t + 3), .ref (t + 5), .ref (t + 7), .ref (t + 9), .ref (t + 11), .ref (t + 13)] && (rwB M (t + 1) 96 [] && (rwB M (t + 3) 96 [] && (rwB M (t + 5) 96 [] && (rwB M (t + 7) 96 [] && (rwB M (t + 9) 96 [] && (rwB M (t + 11) 96 [] && rwB M (t + 13) 12 []))))))
theorem tpB_ok {M : Mm} {t : Nat} (h : tpB M t = true) : TapeAt M t := by
  obtain ⟨h1, h⟩ := Bool.and_eq_true_iff.mp h
  obtain ⟨h2, h⟩ := Bool.and_eq_true_iff.mp h
  obtain ⟨h3, h⟩ := Bool.and_eq_true_iff.mp h
  obtain ⟨h4, h⟩ := Bool.and_eq_true_iff.mp h
  obtain ⟨h5, h⟩ := Bool.and_eq_true_iff.mp h
  obtain ⟨h6, h⟩ := Bool.and_eq_true_iff.mp h
  obtain ⟨h7, h8⟩ := Bool.and_eq_true_iff.mp h
  exact ⟨obB_ok h1, ⟨_, rwB_ok h2⟩, ⟨_, rwB_ok h3⟩, ⟨_, rwB_ok h4⟩, ⟨_, rwB_ok h5⟩, ⟨_, rwB_ok h6⟩, ⟨_, rwB_ok h7⟩, ⟨_, rwB_ok h8⟩⟩
def scB (M : Mm) : Bool := obB M 74 1 [.ref 75, .ref 90, .ref 105, .ref 107] && (tpB M 75 && (tpB M 90 && (rwB M 105 96 [] && (rwB M 107 802 [] && (tpB M 109 && (obB M 124 5 [.ref 125, .ref 127, .int 0, .int 0] && (rwB M 125 41 [] && (rwB M 127 41 [] && (obB M 132 2 [.ref 133, .ref 135, .float 0, .int 0] && (rwB M 133 50 [] && rwB M 135 50 []))))))))))
theorem scB_ok {M : Mm} (h : scB M = true) : Scr M := by
  obtain ⟨h1, h⟩ := Bool.and_eq_true_iff.mp h
  obtain ⟨h2, h⟩ := Bool.and_eq_true_iff.mp h
  obtain ⟨h3, h⟩ := Bool.and_eq_true_iff.mp h
  obtain ⟨h4, h⟩ := Bool.and_eq_true_iff.mp h
  obtain ⟨h5, h⟩ := Bool.and_eq_true_iff.mp h
  obtain ⟨h6, h⟩ := Bool.and_eq_true_iff.mp h
  obtain ⟨h7, h⟩ := Bool.and_eq_true_iff.mp h
  obtain ⟨h8, h⟩ := Bool.and_eq_true_iff.mp h
  obtain ⟨h9, h⟩ := Bool.and_eq_true_iff.mp h
  obtain ⟨h10, h⟩ := Bool.and_eq_true_iff.mp h
  obtain ⟨h11, h12⟩ := Bool.and_eq_true_iff.mp h
  exact ⟨⟨obB_ok h1, tpB_ok h2, tpB_ok h3, ⟨_, rwB_ok h4⟩, ⟨_, rwB_ok h5⟩⟩, tpB_ok h6, ⟨⟨_, _, obB_ok h7⟩, ⟨_, rwB_ok h8⟩, ⟨_, rwB_ok h9⟩⟩, ⟨_, _, obB_ok h10⟩, ⟨_, rwB_ok h11⟩, ⟨_, rwB_ok h12⟩⟩
def shB (M : Mm) : Bool := rfB M 61 4 4 (fun g => alR 4 (fun i => decide (g i = some (62 + 3 * i)))) && alR 4 (fun i => obB M (62 + 3 * i) 4 [.ref (63 + 3 * i), .int 0] && rwB M (63 + 3 * i) 40 [])
theorem shB_ok {M : Mm} (h : shB M = true) : ShAt M (fun _ => (0, [])) := by
  obtain ⟨h1, h2⟩ := Bool.and_eq_true_iff.mp h
  obtain ⟨g, a1, a2⟩ := rfB_ok h1
  refine ⟨⟨g, a1, fun i hi => of_decide_eq_true (alR_ok a2 i hi)⟩, fun i hi => ?_⟩
  obtain ⟨h3, h4⟩ := Bool.and_eq_true_iff.mp (alR_ok h2 i hi)
  exact ⟨obB_ok h3, rwB_ok h4⟩
def clB (M : Mm) : Bool := obB M 0 10 [.ref 1, .ref 30, .int 0, .ref 59, .ref 61, .ref 74, .ref 109, .ref 124, .ref 129, .ref 132] && (nowB M 1 && (nowB M 30 && (rwB M 59 6 [0, 0, 0, 0, 0, 0] && (shB M && (obB M 129 9 [.ref 130] && (rwB M 130 40 [] && (scB M && decide (153 ≤ M.length))))))))
theorem clB_ok {M : Mm} (q : Qn M) (h : clB M = true) : RelC M sg0 := by
  obtain ⟨h1, h⟩ := Bool.and_eq_true_iff.mp h
  obtain ⟨h2, h⟩ := Bool.and_eq_true_iff.mp h
  obtain ⟨h3, h⟩ := Bool.and_eq_true_iff.mp h
  obtain ⟨h4, h⟩ := Bool.and_eq_true_iff.mp h
  obtain ⟨h5, h⟩ := Bool.and_eq_true_iff.mp h
  obtain ⟨h6, h⟩ := Bool.and_eq_true_iff.mp h
  obtain ⟨h7, h⟩ := Bool.and_eq_true_iff.mp h
  obtain ⟨h8, h9⟩ := Bool.and_eq_true_iff.mp h
  exact ⟨obB_ok h1, nowB_ok q h2, nowB_ok q h3, ⟨rfl, rwB_ok h4⟩, shB_ok h5, ⟨obB_ok h6, rwB_ok h7⟩, scB_ok h8, of_decide_eq_true h9⟩
def twB (f : Nat → Int32) : Bool := decide (f 0 = 0 ∧ f 1 = 0 ∧ f 2 = 0 ∧ f 3 = 0 ∧ f 4 = 0 ∧ f 5 = 0 ∧ f 6 = 0 ∧ f 7 = 0 ∧ f 8 = 1) && (alR 13 (fun i => alR (s0r i).length (fun j => decide (f (tix i j) = (s0r i).getD j 0))) && alR 9 (fun u => decide (f (482 + 52 * u) = 0)))
theorem twB_ok {f : Nat → Int32} (h : twB f = true) : TwS f S0 := by
  obtain ⟨h1, h⟩ := Bool.and_eq_true_iff.mp h
  obtain ⟨h2, h3⟩ := Bool.and_eq_true_iff.mp h
  refine ⟨of_decide_eq_true h1, fun i hi j hj => of_decide_eq_true (alR_ok (alR_ok h2 i hi) j hj), fun c hc => absurd hc (Nat.not_lt_zero c), fun u hu => ?_⟩
  have := of_decide_eq_true (alR_ok h3 u hu)
  exact this
def rfT (M : Mm) : Bool := obB M 137 11 (twF (fun _ => 0)) && (alR 15 (fun i => arB M (138 + i) (tt i) (tl i) (fun _ => true)) && (twB (exA M 138) && (alR 6 (fun i => decide (exA M 140 i = 0)) && (alR 4 (fun i => decide (exA M 143 i = 0)) && alR 4 (fun i => decide (exA M 144 i = 0))))))
theorem rfT_ok {M : Mm} (h : rfT M = true) : RelT M sg0 := by
  obtain ⟨h1, h⟩ := Bool.and_eq_true_iff.mp h
  obtain ⟨h2, h⟩ := Bool.and_eq_true_iff.mp h
  obtain ⟨h3, h⟩ := Bool.and_eq_true_iff.mp h
  obtain ⟨h4, h⟩ := Bool.and_eq_true_iff.mp h
  obtain ⟨h5, h6⟩ := Bool.and_eq_true_iff.mp h
  refine ⟨fun _ => 0, fun i => exA M (138 + i), ⟨obB_ok h1, fun i hi => (arB_ok (alR_ok h2 i hi)).1⟩, twB_ok h3, fun q => absurd rfl q, rfl, fun i hi => ?_, fun i hi => ⟨?_, ?_, fun k hk => absurd hk (Nat.not_lt_zero k)⟩, rfl, fun k hk => absurd hk (Nat.not_lt_zero k)⟩
  · show exA M 140 i = ([0, 0, 0, 0, 0, 0] : List Int32).getD i 0
    rw [of_decide_eq_true (alR_ok h4 i hi)]
    match i, hi with
    | 0, _ => rfl
    | 1, _ => rfl
    | 2, _ => rfl
    | 3, _ => rfl
    | 4, _ => rfl
    | 5, _ => rfl
  · exact of_decide_eq_true (alR_ok h5 i hi)
  · exact of_decide_eq_true (alR_ok h6 i hi)
def ch4 : Bool := match run4 with
  | some M => decide (M.length = 137)
  | none => false
def ch8 : Bool := match run8 with
  | some M => clB M && rfT M
  | none => false
theorem ch4_ok : ch4 = true := by decide +kernel
theorem ch8_ok : ch8 = true := by decide +kernel
theorem start_ok : ∃ M4 M8, run4 = some M4 ∧ M4.length = 137 ∧ run8 = some M8 ∧ RelC M8 sg0 ∧ RelT M8 sg0 := by
  have c4 := ch4_ok
  have c8 := ch8_ok
  have q0 : Qn ([] : Mm) := fun k t n g c e => by simp at e
  have q4 : QG Qn run4 := Qn.X10 (q0.kO _ rfl)
  have q8 : QG Qn run8 := QG.b q4 (fun M4 h => Qn.X11 (h.kO _ rfl))
  unfold ch4 at c4
  unfold ch8 at c8
  split at c4
  · next M4 e4 =>
    split at c8
    · next M8 e8 =>
      obtain ⟨d1, d2⟩ := Bool.and_eq_true_iff.mp c8
      exact ⟨M4, M8, e4, of_decide_eq_true c4, e8, clB_ok (q8 M8 e8) d1, rfT_ok d2⟩
    · cases c8
  · cases c4
