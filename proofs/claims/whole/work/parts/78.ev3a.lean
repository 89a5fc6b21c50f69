/-! a law worked out: the reference -/
theorem div_m1 (a : Int32) : a / (-1) = -a := by
  apply Int32.toInt_inj.mp
  have em1 := lm1
  rw [Int32.toInt_div, em1, Int.tdiv_neg, Int.tdiv_one, Int32.toInt_neg]
def sgI (s : Int) : Int := if s = 10006 then 124 else if s = 10007 then 38 else if s = 10008 then 60 else if s = 10009 then 61 else if s = 10010 then 62 else if s = 10011 then 43 else if s = 10012 then 45 else if s = 10013 then 42 else if s = 10014 then 47 else 37
def opcI (s : Int) : Int := if s < 10000 then 1 else if s ≤ 10005 then 2 else if s = 10016 then 3 else if s = 10017 then 4 else sgI s
def argI (s : Int) : Int := if s < 10000 then s else if s ≤ 10005 then s - 10000 else 0
theorem two_ok {σ : zS} {w a b : Int32} {s : Int} (hs : 10006 ≤ s ∧ s ≤ 10015) (hw : w.toInt = sgI s) : p_X12_twoOf σ w a b ∧ f_X12_twoOf σ w a b = opv s a b := by
  rcases opv_10 s hs with q | q | q | q | q | q | q | q | q | q
  · subst q
    have e : w = 124 := ieq.mpr (by rw [hw]; rfl)
    subst e
    unfold p_X12_twoOf f_X12_twoOf
    rw [opv_10006, if_neg (show ¬ (124 : Int32) = 37 by decide), if_neg (show ¬ (124 : Int32) = 38 by decide), if_neg (show ¬ (124 : Int32) = 42 by decide), if_neg (show ¬ (124 : Int32) = 43 by decide), if_neg (show ¬ (124 : Int32) = 45 by decide), if_neg (show ¬ (124 : Int32) = 47 by decide), if_neg (show ¬ (124 : Int32) = 37 by decide), if_neg (show ¬ (124 : Int32) = 38 by decide), if_neg (show ¬ (124 : Int32) = 42 by decide), if_neg (show ¬ (124 : Int32) = 43 by decide), if_neg (show ¬ (124 : Int32) = 45 by decide), if_neg (show ¬ (124 : Int32) = 47 by decide), if_neg (show ¬ (124 : Int32) = 60 by decide), if_neg (show ¬ (124 : Int32) = 61 by decide), if_neg (show ¬ (124 : Int32) = 62 by decide)]
    exact ⟨trivial, rfl⟩
  · subst q
    have e : w = 38 := ieq.mpr (by rw [hw]; rfl)
    subst e
    unfold p_X12_twoOf f_X12_twoOf
    rw [opv_10007, if_neg (show ¬ (38 : Int32) = 37 by decide), if_pos (show (38 : Int32) = 38 from rfl), if_neg (show ¬ (38 : Int32) = 37 by decide), if_pos (show (38 : Int32) = 38 from rfl)]
    exact ⟨trivial, rfl⟩
  · subst q
    have e : w = 60 := ieq.mpr (by rw [hw]; rfl)
    subst e
    unfold p_X12_twoOf f_X12_twoOf
    rw [opv_10008, if_neg (show ¬ (60 : Int32) = 37 by decide), if_neg (show ¬ (60 : Int32) = 38 by decide), if_neg (show ¬ (60 : Int32) = 42 by decide), if_neg (show ¬ (60 : Int32) = 43 by decide), if_neg (show ¬ (60 : Int32) = 45 by decide), if_neg (show ¬ (60 : Int32) = 47 by decide), if_neg (show ¬ (60 : Int32) = 37 by decide), if_neg (show ¬ (60 : Int32) = 38 by decide), if_neg (show ¬ (60 : Int32) = 42 by decide), if_neg (show ¬ (60 : Int32) = 43 by decide), if_neg (show ¬ (60 : Int32) = 45 by decide), if_neg (show ¬ (60 : Int32) = 47 by decide), if_pos (show (60 : Int32) = 60 from rfl)]
    exact ⟨trivial, rfl⟩
  · subst q
    have e : w = 61 := ieq.mpr (by rw [hw]; rfl)
    subst e
    unfold p_X12_twoOf f_X12_twoOf
    rw [opv_10009, if_neg (show ¬ (61 : Int32) = 37 by decide), if_neg (show ¬ (61 : Int32) = 38 by decide), if_neg (show ¬ (61 : Int32) = 42 by decide), if_neg (show ¬ (61 : Int32) = 43 by decide), if_neg (show ¬ (61 : Int32) = 45 by decide), if_neg (show ¬ (61 : Int32) = 47 by decide), if_neg (show ¬ (61 : Int32) = 37 by decide), if_neg (show ¬ (61 : Int32) = 38 by decide), if_neg (show ¬ (61 : Int32) = 42 by decide), if_neg (show ¬ (61 : Int32) = 43 by decide), if_neg (show ¬ (61 : Int32) = 45 by decide), if_neg (show ¬ (61 : Int32) = 47 by decide), if_neg (show ¬ (61 : Int32) = 60 by decide), if_pos (show (61 : Int32) = 61 from rfl)]
    exact ⟨trivial, rfl⟩
  · subst q
    have e : w = 62 := ieq.mpr (by rw [hw]; rfl)
    subst e
    unfold p_X12_twoOf f_X12_twoOf
    rw [opv_10010, if_neg (show ¬ (62 : Int32) = 37 by decide), if_neg (show ¬ (62 : Int32) = 38 by decide), if_neg (show ¬ (62 : Int32) = 42 by decide), if_neg (show ¬ (62 : Int32) = 43 by decide), if_neg (show ¬ (62 : Int32) = 45 by decide), if_neg (show ¬ (62 : Int32) = 47 by decide), if_neg (show ¬ (62 : Int32) = 37 by decide), if_neg (show ¬ (62 : Int32) = 38 by decide), if_neg (show ¬ (62 : Int32) = 42 by decide), if_neg (show ¬ (62 : Int32) = 43 by decide), if_neg (show ¬ (62 : Int32) = 45 by decide), if_neg (show ¬ (62 : Int32) = 47 by decide), if_neg (show ¬ (62 : Int32) = 60 by decide), if_neg (show ¬ (62 : Int32) = 61 by decide), if_pos (show (62 : Int32) = 62 from rfl)]
    exact ⟨trivial, rfl⟩
  · subst q
    have e : w = 43 := ieq.mpr (by rw [hw]; rfl)
    subst e
    unfold p_X12_twoOf f_X12_twoOf
    rw [opv_10011, if_neg (show ¬ (43 : Int32) = 37 by decide), if_neg (show ¬ (43 : Int32) = 38 by decide), if_neg (show ¬ (43 : Int32) = 42 by decide), if_pos (show (43 : Int32) = 43 from rfl), if_neg (show ¬ (43 : Int32) = 37 by decide), if_neg (show ¬ (43 : Int32) = 38 by decide), if_neg (show ¬ (43 : Int32) = 42 by decide), if_pos (show (43 : Int32) = 43 from rfl)]
    exact ⟨trivial, rfl⟩
  · subst q
    have e : w = 45 := ieq.mpr (by rw [hw]; rfl)
    subst e
    unfold p_X12_twoOf f_X12_twoOf
    rw [opv_10012, if_neg (show ¬ (45 : Int32) = 37 by decide), if_neg (show ¬ (45 : Int32) = 38 by decide), if_neg (show ¬ (45 : Int32) = 42 by decide), if_neg (show ¬ (45 : Int32) = 43 by decide), if_pos (show (45 : Int32) = 45 from rfl), if_neg (show ¬ (45 : Int32) = 37 by decide), if_neg (show ¬ (45 : Int32) = 38 by decide), if_neg (show ¬ (45 : Int32) = 42 by decide), if_neg (show ¬ (45 : Int32) = 43 by decide), if_pos (show (45 : Int32) = 45 from rfl)]
    exact ⟨trivial, rfl⟩
  · subst q
    have e : w = 42 := ieq.mpr (by rw [hw]; rfl)
    subst e
    unfold p_X12_twoOf f_X12_twoOf
    rw [opv_10013, if_neg (show ¬ (42 : Int32) = 37 by decide), if_neg (show ¬ (42 : Int32) = 38 by decide), if_pos (show (42 : Int32) = 42 from rfl), if_neg (show ¬ (42 : Int32) = 37 by decide), if_neg (show ¬ (42 : Int32) = 38 by decide), if_pos (show (42 : Int32) = 42 from rfl)]
    exact ⟨trivial, rfl⟩
  · subst q
    have e : w = 47 := ieq.mpr (by rw [hw]; rfl)
    subst e
    unfold p_X12_twoOf f_X12_twoOf
    rw [opv_10014, if_neg (show ¬ (47 : Int32) = 37 by decide), if_neg (show ¬ (47 : Int32) = 38 by decide), if_neg (show ¬ (47 : Int32) = 42 by decide), if_neg (show ¬ (47 : Int32) = 43 by decide), if_neg (show ¬ (47 : Int32) = 45 by decide), if_pos (show (47 : Int32) = 47 from rfl), if_neg (show ¬ (47 : Int32) = 37 by decide), if_neg (show ¬ (47 : Int32) = 38 by decide), if_neg (show ¬ (47 : Int32) = 42 by decide), if_neg (show ¬ (47 : Int32) = 43 by decide), if_neg (show ¬ (47 : Int32) = 45 by decide), if_pos (show (47 : Int32) = 47 from rfl)]
    by_cases cb : b = 0
    · rw [if_neg (fun y => y cb), if_neg (fun y => y cb), if_neg (fun y => y cb)]; exact ⟨trivial, rfl⟩
    · rw [if_pos cb, if_pos cb, if_pos cb]
      by_cases c1 : b = -1
      · rw [if_neg (fun y => y c1), if_neg (fun y => y c1), c1, div_m1]; exact ⟨trivial, rfl⟩
      · rw [if_pos c1, if_pos c1]; exact ⟨by rw [decide_eq_true_eq]; exact cb, rfl⟩
  · subst q
    have e : w = 37 := ieq.mpr (by rw [hw]; rfl)
    subst e
    unfold p_X12_twoOf f_X12_twoOf
    rw [opv_10015, if_pos (show (37 : Int32) = 37 from rfl), if_pos (show (37 : Int32) = 37 from rfl)]
    by_cases cb : b = 0
    · rw [if_pos cb, if_pos cb, if_neg (fun y => y cb)]; exact ⟨trivial, rfl⟩
    · rw [if_neg cb, if_neg cb, if_pos cb]
      by_cases c1 : b = -1
      · rw [if_neg (fun y => y c1), if_neg (fun y => y c1), c1, div_m1, Int32.neg_mul_neg, Int32.mul_one, Int32.sub_self]; exact ⟨trivial, rfl⟩
      · rw [if_pos c1, if_pos c1]; exact ⟨by rw [decide_eq_true_eq]; exact cb, rfl⟩
theorem sgI_b {s : Int} (hs : 10006 ≤ s ∧ s ≤ 10015) : 5 ≤ sgI s ∧ sgI s ≤ 127 := by
  rcases opv_10 s hs with q | q | q | q | q | q | q | q | q | q <;> (subst q; exact ⟨by decide, by decide⟩)
