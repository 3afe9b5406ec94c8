def m_X11_minuteIs (x1 : Int32) (x2 : Int32) (σ : SS) : Option (Int32 × SS) :=
  Option.bind (m_X11_strainAt (σ.1 0 0 23) x1 (σ.1 0 0 24) σ) (fun q1 =>
  if (q1.2.1 0 0 25) < (0 : Int32) then
    if x2 = (0 : Int32) then
      if ((σ.1 0 0 26) + (q1.1 + (0 : Int32))) ≤ (m_X11_bears (sI (sI q1.2 0 0 26 ((σ.1 0 0 26) + (q1.1 + (0 : Int32)))) 0 0 25 x1)) then
        if (q1.2.1 0 0 23) = ((q1.2.1 0 0 6) - (1 : Int32)) then
          if (q1.2.1 0 0 31) = (-2000000000 : Int32) then
            some ((1 : Int32), (sI (sI (sI (sI (sI q1.2 0 0 26 ((σ.1 0 0 26) + (q1.1 + (0 : Int32)))) 0 0 25 x1) 0 0 27 ((q1.2.1 0 0 27) + (1 : Int32))) 0 0 31 ((m_X11_bears (sI (sI q1.2 0 0 26 ((σ.1 0 0 26) + (q1.1 + (0 : Int32)))) 0 0 25 x1)) - ((σ.1 0 0 26) + (q1.1 + (0 : Int32))))) 0 0 23 (-1 : Int32)))
          else
          if (q1.2.1 0 0 31) ≤ ((m_X11_bears (sI (sI q1.2 0 0 26 ((σ.1 0 0 26) + (q1.1 + (0 : Int32)))) 0 0 25 x1)) - ((σ.1 0 0 26) + (q1.1 + (0 : Int32)))) then
            some ((1 : Int32), (sI (sI (sI (sI (sI q1.2 0 0 26 ((σ.1 0 0 26) + (q1.1 + (0 : Int32)))) 0 0 25 x1) 0 0 27 ((q1.2.1 0 0 27) + (1 : Int32))) 0 0 31 (q1.2.1 0 0 31)) 0 0 23 (-1 : Int32)))
          else
          some ((1 : Int32), (sI (sI (sI (sI (sI q1.2 0 0 26 ((σ.1 0 0 26) + (q1.1 + (0 : Int32)))) 0 0 25 x1) 0 0 27 ((q1.2.1 0 0 27) + (1 : Int32))) 0 0 31 ((m_X11_bears (sI (sI q1.2 0 0 26 ((σ.1 0 0 26) + (q1.1 + (0 : Int32)))) 0 0 25 x1)) - ((σ.1 0 0 26) + (q1.1 + (0 : Int32))))) 0 0 23 (-1 : Int32)))
        else
        some ((1 : Int32), (sI (sI q1.2 0 0 26 ((σ.1 0 0 26) + (q1.1 + (0 : Int32)))) 0 0 25 x1))
      else
      some ((0 : Int32), (sI (sI (sI (sI q1.2 0 0 26 ((σ.1 0 0 26) + (q1.1 + (0 : Int32)))) 0 0 25 x1) 0 0 28 ((q1.2.1 0 0 28) + (1 : Int32))) 0 0 23 (-1 : Int32)))
    else
    Option.bind (m_X11_windAt (q1.2.1 0 0 23) (q1.2.1 0 0 24) (sI q1.2 0 0 26 ((σ.1 0 0 26) + (q1.1 + (0 : Int32))))) (fun q8 =>
    if q8 = (0 : Int32) then
      if ((σ.1 0 0 26) + (q1.1 + (0 : Int32))) ≤ (3 : Int32) then
        if (0 : Int32) ≤ (m_X11_bears (sI (sI (sI q1.2 0 0 26 ((σ.1 0 0 26) + (q1.1 + (0 : Int32)))) 0 0 26 (0 : Int32)) 0 0 25 x1)) then
          if (q1.2.1 0 0 23) = ((q1.2.1 0 0 6) - (1 : Int32)) then
            some ((1 : Int32), (sI (sI (sI q1.2 0 0 26 ((σ.1 0 0 26) + (q1.1 + (0 : Int32)))) 0 0 26 (0 : Int32)) 0 0 25 x1))
          else
          some ((1 : Int32), (sI (sI (sI q1.2 0 0 26 ((σ.1 0 0 26) + (q1.1 + (0 : Int32)))) 0 0 26 (0 : Int32)) 0 0 25 x1))
        else
        some ((0 : Int32), (sI (sI (sI (sI (sI q1.2 0 0 26 ((σ.1 0 0 26) + (q1.1 + (0 : Int32)))) 0 0 26 (0 : Int32)) 0 0 25 x1) 0 0 28 ((q1.2.1 0 0 28) + (1 : Int32))) 0 0 23 (-1 : Int32)))
      else
      if (((σ.1 0 0 26) + (q1.1 + (0 : Int32))) - (3 : Int32)) ≤ (m_X11_bears (sI (sI (sI q1.2 0 0 26 ((σ.1 0 0 26) + (q1.1 + (0 : Int32)))) 0 0 26 (((σ.1 0 0 26) + (q1.1 + (0 : Int32))) - (3 : Int32))) 0 0 25 x1)) then
        if (q1.2.1 0 0 23) = ((q1.2.1 0 0 6) - (1 : Int32)) then
          some ((1 : Int32), (sI (sI (sI q1.2 0 0 26 ((σ.1 0 0 26) + (q1.1 + (0 : Int32)))) 0 0 26 (((σ.1 0 0 26) + (q1.1 + (0 : Int32))) - (3 : Int32))) 0 0 25 x1))
        else
        some ((1 : Int32), (sI (sI (sI q1.2 0 0 26 ((σ.1 0 0 26) + (q1.1 + (0 : Int32)))) 0 0 26 (((σ.1 0 0 26) + (q1.1 + (0 : Int32))) - (3 : Int32))) 0 0 25 x1))
      else
      some ((0 : Int32), (sI (sI (sI (sI (sI q1.2 0 0 26 ((σ.1 0 0 26) + (q1.1 + (0 : Int32)))) 0 0 26 (((σ.1 0 0 26) + (q1.1 + (0 : Int32))) - (3 : Int32))) 0 0 25 x1) 0 0 28 ((q1.2.1 0 0 28) + (1 : Int32))) 0 0 23 (-1 : Int32)))
    else
    if ((σ.1 0 0 26) + (q1.1 + (0 : Int32))) ≤ (m_X11_bears (sI (sI q1.2 0 0 26 ((σ.1 0 0 26) + (q1.1 + (0 : Int32)))) 0 0 25 x1)) then
      if (q1.2.1 0 0 23) = ((q1.2.1 0 0 6) - (1 : Int32)) then
        some ((1 : Int32), (sI (sI q1.2 0 0 26 ((σ.1 0 0 26) + (q1.1 + (0 : Int32)))) 0 0 25 x1))
      else
      some ((1 : Int32), (sI (sI q1.2 0 0 26 ((σ.1 0 0 26) + (q1.1 + (0 : Int32)))) 0 0 25 x1))
    else
    some ((0 : Int32), (sI (sI (sI (sI q1.2 0 0 26 ((σ.1 0 0 26) + (q1.1 + (0 : Int32)))) 0 0 25 x1) 0 0 28 ((q1.2.1 0 0 28) + (1 : Int32))) 0 0 23 (-1 : Int32))))
  else
  if (q1.2.1 0 0 25) = x1 then
    if x2 = (0 : Int32) then
      if ((σ.1 0 0 26) + (q1.1 + (0 : Int32))) ≤ (m_X11_bears (sI (sI q1.2 0 0 26 ((σ.1 0 0 26) + (q1.1 + (0 : Int32)))) 0 0 25 x1)) then
        if (q1.2.1 0 0 23) = ((q1.2.1 0 0 6) - (1 : Int32)) then
          if (q1.2.1 0 0 31) = (-2000000000 : Int32) then
            some ((1 : Int32), (sI (sI (sI (sI (sI q1.2 0 0 26 ((σ.1 0 0 26) + (q1.1 + (0 : Int32)))) 0 0 25 x1) 0 0 27 ((q1.2.1 0 0 27) + (1 : Int32))) 0 0 31 ((m_X11_bears (sI (sI q1.2 0 0 26 ((σ.1 0 0 26) + (q1.1 + (0 : Int32)))) 0 0 25 x1)) - ((σ.1 0 0 26) + (q1.1 + (0 : Int32))))) 0 0 23 (-1 : Int32)))
          else
          if (q1.2.1 0 0 31) ≤ ((m_X11_bears (sI (sI q1.2 0 0 26 ((σ.1 0 0 26) + (q1.1 + (0 : Int32)))) 0 0 25 x1)) - ((σ.1 0 0 26) + (q1.1 + (0 : Int32)))) then
            some ((1 : Int32), (sI (sI (sI (sI (sI q1.2 0 0 26 ((σ.1 0 0 26) + (q1.1 + (0 : Int32)))) 0 0 25 x1) 0 0 27 ((q1.2.1 0 0 27) + (1 : Int32))) 0 0 31 (q1.2.1 0 0 31)) 0 0 23 (-1 : Int32)))
          else
          some ((1 : Int32), (sI (sI (sI (sI (sI q1.2 0 0 26 ((σ.1 0 0 26) + (q1.1 + (0 : Int32)))) 0 0 25 x1) 0 0 27 ((q1.2.1 0 0 27) + (1 : Int32))) 0 0 31 ((m_X11_bears (sI (sI q1.2 0 0 26 ((σ.1 0 0 26) + (q1.1 + (0 : Int32)))) 0 0 25 x1)) - ((σ.1 0 0 26) + (q1.1 + (0 : Int32))))) 0 0 23 (-1 : Int32)))
        else
        some ((1 : Int32), (sI (sI q1.2 0 0 26 ((σ.1 0 0 26) + (q1.1 + (0 : Int32)))) 0 0 25 x1))
      else
      some ((0 : Int32), (sI (sI (sI (sI q1.2 0 0 26 ((σ.1 0 0 26) + (q1.1 + (0 : Int32)))) 0 0 25 x1) 0 0 28 ((q1.2.1 0 0 28) + (1 : Int32))) 0 0 23 (-1 : Int32)))
    else
    Option.bind (m_X11_windAt (q1.2.1 0 0 23) (q1.2.1 0 0 24) (sI q1.2 0 0 26 ((σ.1 0 0 26) + (q1.1 + (0 : Int32))))) (fun q23 =>
    if q23 = (0 : Int32) then
      if ((σ.1 0 0 26) + (q1.1 + (0 : Int32))) ≤ (3 : Int32) then
        if (0 : Int32) ≤ (m_X11_bears (sI (sI (sI q1.2 0 0 26 ((σ.1 0 0 26) + (q1.1 + (0 : Int32)))) 0 0 26 (0 : Int32)) 0 0 25 x1)) then
          if (q1.2.1 0 0 23) = ((q1.2.1 0 0 6) - (1 : Int32)) then
            some ((1 : Int32), (sI (sI (sI q1.2 0 0 26 ((σ.1 0 0 26) + (q1.1 + (0 : Int32)))) 0 0 26 (0 : Int32)) 0 0 25 x1))
          else
          some ((1 : Int32), (sI (sI (sI q1.2 0 0 26 ((σ.1 0 0 26) + (q1.1 + (0 : Int32)))) 0 0 26 (0 : Int32)) 0 0 25 x1))
        else
        some ((0 : Int32), (sI (sI (sI (sI (sI q1.2 0 0 26 ((σ.1 0 0 26) + (q1.1 + (0 : Int32)))) 0 0 26 (0 : Int32)) 0 0 25 x1) 0 0 28 ((q1.2.1 0 0 28) + (1 : Int32))) 0 0 23 (-1 : Int32)))
      else
      if (((σ.1 0 0 26) + (q1.1 + (0 : Int32))) - (3 : Int32)) ≤ (m_X11_bears (sI (sI (sI q1.2 0 0 26 ((σ.1 0 0 26) + (q1.1 + (0 : Int32)))) 0 0 26 (((σ.1 0 0 26) + (q1.1 + (0 : Int32))) - (3 : Int32))) 0 0 25 x1)) then
        if (q1.2.1 0 0 23) = ((q1.2.1 0 0 6) - (1 : Int32)) then
          some ((1 : Int32), (sI (sI (sI q1.2 0 0 26 ((σ.1 0 0 26) + (q1.1 + (0 : Int32)))) 0 0 26 (((σ.1 0 0 26) + (q1.1 + (0 : Int32))) - (3 : Int32))) 0 0 25 x1))
        else
        some ((1 : Int32), (sI (sI (sI q1.2 0 0 26 ((σ.1 0 0 26) + (q1.1 + (0 : Int32)))) 0 0 26 (((σ.1 0 0 26) + (q1.1 + (0 : Int32))) - (3 : Int32))) 0 0 25 x1))
      else
      some ((0 : Int32), (sI (sI (sI (sI (sI q1.2 0 0 26 ((σ.1 0 0 26) + (q1.1 + (0 : Int32)))) 0 0 26 (((σ.1 0 0 26) + (q1.1 + (0 : Int32))) - (3 : Int32))) 0 0 25 x1) 0 0 28 ((q1.2.1 0 0 28) + (1 : Int32))) 0 0 23 (-1 : Int32)))
    else
    if ((σ.1 0 0 26) + (q1.1 + (0 : Int32))) ≤ (m_X11_bears (sI (sI q1.2 0 0 26 ((σ.1 0 0 26) + (q1.1 + (0 : Int32)))) 0 0 25 x1)) then
      if (q1.2.1 0 0 23) = ((q1.2.1 0 0 6) - (1 : Int32)) then
        some ((1 : Int32), (sI (sI q1.2 0 0 26 ((σ.1 0 0 26) + (q1.1 + (0 : Int32)))) 0 0 25 x1))
      else
      some ((1 : Int32), (sI (sI q1.2 0 0 26 ((σ.1 0 0 26) + (q1.1 + (0 : Int32)))) 0 0 25 x1))
    else
    some ((0 : Int32), (sI (sI (sI (sI q1.2 0 0 26 ((σ.1 0 0 26) + (q1.1 + (0 : Int32)))) 0 0 25 x1) 0 0 28 ((q1.2.1 0 0 28) + (1 : Int32))) 0 0 23 (-1 : Int32))))
  else
  if x2 = (0 : Int32) then
    if ((σ.1 0 0 26) + (q1.1 + (1 : Int32))) ≤ (m_X11_bears (sI (sI q1.2 0 0 26 ((σ.1 0 0 26) + (q1.1 + (1 : Int32)))) 0 0 25 x1)) then
      if (q1.2.1 0 0 23) = ((q1.2.1 0 0 6) - (1 : Int32)) then
        if (q1.2.1 0 0 31) = (-2000000000 : Int32) then
          some ((1 : Int32), (sI (sI (sI (sI (sI q1.2 0 0 26 ((σ.1 0 0 26) + (q1.1 + (1 : Int32)))) 0 0 25 x1) 0 0 27 ((q1.2.1 0 0 27) + (1 : Int32))) 0 0 31 ((m_X11_bears (sI (sI q1.2 0 0 26 ((σ.1 0 0 26) + (q1.1 + (1 : Int32)))) 0 0 25 x1)) - ((σ.1 0 0 26) + (q1.1 + (1 : Int32))))) 0 0 23 (-1 : Int32)))
        else
        if (q1.2.1 0 0 31) ≤ ((m_X11_bears (sI (sI q1.2 0 0 26 ((σ.1 0 0 26) + (q1.1 + (1 : Int32)))) 0 0 25 x1)) - ((σ.1 0 0 26) + (q1.1 + (1 : Int32)))) then
          some ((1 : Int32), (sI (sI (sI (sI (sI q1.2 0 0 26 ((σ.1 0 0 26) + (q1.1 + (1 : Int32)))) 0 0 25 x1) 0 0 27 ((q1.2.1 0 0 27) + (1 : Int32))) 0 0 31 (q1.2.1 0 0 31)) 0 0 23 (-1 : Int32)))
        else
        some ((1 : Int32), (sI (sI (sI (sI (sI q1.2 0 0 26 ((σ.1 0 0 26) + (q1.1 + (1 : Int32)))) 0 0 25 x1) 0 0 27 ((q1.2.1 0 0 27) + (1 : Int32))) 0 0 31 ((m_X11_bears (sI (sI q1.2 0 0 26 ((σ.1 0 0 26) + (q1.1 + (1 : Int32)))) 0 0 25 x1)) - ((σ.1 0 0 26) + (q1.1 + (1 : Int32))))) 0 0 23 (-1 : Int32)))
      else
      some ((1 : Int32), (sI (sI q1.2 0 0 26 ((σ.1 0 0 26) + (q1.1 + (1 : Int32)))) 0 0 25 x1))
    else
    some ((0 : Int32), (sI (sI (sI (sI q1.2 0 0 26 ((σ.1 0 0 26) + (q1.1 + (1 : Int32)))) 0 0 25 x1) 0 0 28 ((q1.2.1 0 0 28) + (1 : Int32))) 0 0 23 (-1 : Int32)))
  else
  Option.bind (m_X11_windAt (q1.2.1 0 0 23) (q1.2.1 0 0 24) (sI q1.2 0 0 26 ((σ.1 0 0 26) + (q1.1 + (1 : Int32))))) (fun q37 =>
  if q37 = (0 : Int32) then
    if ((σ.1 0 0 26) + (q1.1 + (1 : Int32))) ≤ (3 : Int32) then
      if (0 : Int32) ≤ (m_X11_bears (sI (sI (sI q1.2 0 0 26 ((σ.1 0 0 26) + (q1.1 + (1 : Int32)))) 0 0 26 (0 : Int32)) 0 0 25 x1)) then
        if (q1.2.1 0 0 23) = ((q1.2.1 0 0 6) - (1 : Int32)) then
          some ((1 : Int32), (sI (sI (sI q1.2 0 0 26 ((σ.1 0 0 26) + (q1.1 + (1 : Int32)))) 0 0 26 (0 : Int32)) 0 0 25 x1))
        else
        some ((1 : Int32), (sI (sI (sI q1.2 0 0 26 ((σ.1 0 0 26) + (q1.1 + (1 : Int32)))) 0 0 26 (0 : Int32)) 0 0 25 x1))
      else
      some ((0 : Int32), (sI (sI (sI (sI (sI q1.2 0 0 26 ((σ.1 0 0 26) + (q1.1 + (1 : Int32)))) 0 0 26 (0 : Int32)) 0 0 25 x1) 0 0 28 ((q1.2.1 0 0 28) + (1 : Int32))) 0 0 23 (-1 : Int32)))
    else
    if (((σ.1 0 0 26) + (q1.1 + (1 : Int32))) - (3 : Int32)) ≤ (m_X11_bears (sI (sI (sI q1.2 0 0 26 ((σ.1 0 0 26) + (q1.1 + (1 : Int32)))) 0 0 26 (((σ.1 0 0 26) + (q1.1 + (1 : Int32))) - (3 : Int32))) 0 0 25 x1)) then
      if (q1.2.1 0 0 23) = ((q1.2.1 0 0 6) - (1 : Int32)) then
        some ((1 : Int32), (sI (sI (sI q1.2 0 0 26 ((σ.1 0 0 26) + (q1.1 + (1 : Int32)))) 0 0 26 (((σ.1 0 0 26) + (q1.1 + (1 : Int32))) - (3 : Int32))) 0 0 25 x1))
      else
      some ((1 : Int32), (sI (sI (sI q1.2 0 0 26 ((σ.1 0 0 26) + (q1.1 + (1 : Int32)))) 0 0 26 (((σ.1 0 0 26) + (q1.1 + (1 : Int32))) - (3 : Int32))) 0 0 25 x1))
    else
    some ((0 : Int32), (sI (sI (sI (sI (sI q1.2 0 0 26 ((σ.1 0 0 26) + (q1.1 + (1 : Int32)))) 0 0 26 (((σ.1 0 0 26) + (q1.1 + (1 : Int32))) - (3 : Int32))) 0 0 25 x1) 0 0 28 ((q1.2.1 0 0 28) + (1 : Int32))) 0 0 23 (-1 : Int32)))
  else
  if ((σ.1 0 0 26) + (q1.1 + (1 : Int32))) ≤ (m_X11_bears (sI (sI q1.2 0 0 26 ((σ.1 0 0 26) + (q1.1 + (1 : Int32)))) 0 0 25 x1)) then
    if (q1.2.1 0 0 23) = ((q1.2.1 0 0 6) - (1 : Int32)) then
      some ((1 : Int32), (sI (sI q1.2 0 0 26 ((σ.1 0 0 26) + (q1.1 + (1 : Int32)))) 0 0 25 x1))
    else
    some ((1 : Int32), (sI (sI q1.2 0 0 26 ((σ.1 0 0 26) + (q1.1 + (1 : Int32)))) 0 0 25 x1))
  else
  some ((0 : Int32), (sI (sI (sI (sI q1.2 0 0 26 ((σ.1 0 0 26) + (q1.1 + (1 : Int32)))) 0 0 25 x1) 0 0 28 ((q1.2.1 0 0 28) + (1 : Int32))) 0 0 23 (-1 : Int32)))))
set_option maxRecDepth 100000 in
set_option maxHeartbeats 4000000 in
theorem c_X11_minuteIs (x1 : Int32) (x2 : Int32) (σ : SS) {r : Int32} {σ' : SS} (hm : m_X11_minuteIs x1 x2 σ = some (r, σ')) : XM LM 65 M_X11_minuteIs [aR 0 0, aI x1, aI x2] σ (some (aI r)) σ' := by
  refine XM.of (K := K11) (by decide) (by decide +kernel) K11_ok (Nat.le_of_ble_eq_true rfl) (fun Γ B q => ?_)
  unfold m_X11_minuteIs at hm
  refine XW.bk B [(0, .aload_n 0), (1, .dup), (2, .getfield 279), (5, .aload_n 0), (6, .aload_n 0), (7, .getfield 72), (10, .iload_n 1), (11, .aload_n 0), (12, .getfield 282)] (by decide +kernel) (pc1 := 15) (ls1 := [some (aR 0 0), some (aI x1), some (aI x2), none]) (st1 := [aI (σ.1 0 0 24), aI x1, aI (σ.1 0 0 23), aR 0 0, aI (σ.1 0 0 26), aR 0 0]) (σ1 := σ) (P := []) rfl trivial ?_
  obtain ⟨q1, hq1, hm⟩ := obind_eq hm
  refine XW.callV B (M := M_X11_strainAt) (t := 0) (j := 0) (cn := 1) (as := [aI (σ.1 0 0 23), aI x1, aI (σ.1 0 0 24)]) (c_X11_strainAt (σ.1 0 0 23) x1 (σ.1 0 0 24) σ hq1) (by decide) wV_X11_strainAt wN_X11_strainAt lk_X11_200 rfl rfl rfl (by decide) rfl (Nat.le_of_ble_eq_true rfl) (by decide +kernel) ?_
  refine XW.bb B [(18, .aload_n 0), (19, .getfield 285)] (by decide +kernel) (pc1 := 22) (ls1 := [some (aR 0 0), some (aI x1), some (aI x2), none]) (st1 := [aI (q1.2.1 0 0 25), aI q1.1, aI (σ.1 0 0 26), aR 0 0]) (σ1 := q1.2) (P := []) (i := .ifCond .lt 15) (tgt := 37) (q := (q1.2.1 0 0 25) < (0 : Int32)) rfl trivial (by decide +kernel) rfl (by decide) (fun h2 => ?_) (fun h2 => ?_)
  · rw [if_pos h2] at hm
    refine XW.bb B [(37, .iconst 0), (38, .iadd), (39, .iadd), (40, .putfield 279), (43, .iload_n 2)] (by decide +kernel) (pc1 := 44) (ls1 := [some (aR 0 0), some (aI x1), some (aI x2), none]) (st1 := [aI x2]) (σ1 := (sI q1.2 0 0 26 ((σ.1 0 0 26) + (q1.1 + (0 : Int32))))) (P := []) (i := .ifCond .eq 40) (tgt := 84) (q := x2 = (0 : Int32)) rfl trivial (by decide +kernel) rfl (by decide) (fun h3 => ?_) (fun h3 => ?_)
    · rw [if_pos h3] at hm
      refine XW.bk B [(84, .aload_n 0), (85, .iload_n 1), (86, .putfield 285), (89, .aload_n 0), (90, .getfield 279), (93, .aload_n 0)] (by decide +kernel) (pc1 := 94) (ls1 := [some (aR 0 0), some (aI x1), some (aI x2), none]) (st1 := [aR 0 0, aI ((σ.1 0 0 26) + (q1.1 + (0 : Int32)))]) (σ1 := (sI (sI q1.2 0 0 26 ((σ.1 0 0 26) + (q1.1 + (0 : Int32)))) 0 0 25 x1)) (P := []) rfl trivial ?_
      refine XW.callV B (M := M_X11_bears) (t := 0) (j := 0) (cn := 1) (as := []) (c_X11_bears (sI (sI q1.2 0 0 26 ((σ.1 0 0 26) + (q1.1 + (0 : Int32)))) 0 0 25 x1) rfl) (by decide) wV_X11_bears wN_X11_bears lk_X11_216 rfl rfl rfl (by decide) rfl (Nat.le_of_ble_eq_true rfl) (by decide +kernel) ?_
      refine XW.bb B [] (by decide +kernel) (pc1 := 97) (ls1 := [some (aR 0 0), some (aI x1), some (aI x2), none]) (st1 := [aI (m_X11_bears (sI (sI q1.2 0 0 26 ((σ.1 0 0 26) + (q1.1 + (0 : Int32)))) 0 0 25 x1)), aI ((σ.1 0 0 26) + (q1.1 + (0 : Int32)))]) (σ1 := (sI (sI q1.2 0 0 26 ((σ.1 0 0 26) + (q1.1 + (0 : Int32)))) 0 0 25 x1)) (P := []) (i := .if_icmp .le 20) (tgt := 117) (q := ((σ.1 0 0 26) + (q1.1 + (0 : Int32))) ≤ (m_X11_bears (sI (sI q1.2 0 0 26 ((σ.1 0 0 26) + (q1.1 + (0 : Int32)))) 0 0 25 x1))) rfl trivial (by decide +kernel) rfl (by decide) (fun h4 => ?_) (fun h4 => ?_)
      · rw [if_pos h4] at hm
        refine XW.bn B [(117, .aload_n 0), (118, .getfield 72), (121, .aload_n 0), (122, .getfield 81), (125, .iconst 1), (126, .isub)] (by decide +kernel) (pc1 := 127) (ls1 := [some (aR 0 0), some (aI x1), some (aI x2), none]) (st1 := [aI ((q1.2.1 0 0 6) - (1 : Int32)), aI (q1.2.1 0 0 23)]) (σ1 := (sI (sI q1.2 0 0 26 ((σ.1 0 0 26) + (q1.1 + (0 : Int32)))) 0 0 25 x1)) (P := []) (i := .if_icmp .ne 61) (tgt := 188) (q := (q1.2.1 0 0 23) = ((q1.2.1 0 0 6) - (1 : Int32))) rfl trivial (by decide +kernel) rfl (by decide) (fun h5 => ?_) (fun h5 => ?_)
        · rw [if_pos h5] at hm
          refine XW.bn B [(130, .iload_n 2)] (by decide +kernel) (pc1 := 131) (ls1 := [some (aR 0 0), some (aI x1), some (aI x2), none]) (st1 := [aI x2]) (σ1 := (sI (sI q1.2 0 0 26 ((σ.1 0 0 26) + (q1.1 + (0 : Int32)))) 0 0 25 x1)) (P := []) (i := .ifCond .ne 57) (tgt := 188) (q := x2 = (0 : Int32)) rfl trivial (by decide +kernel) rfl (by decide) (fun _ => ?_) (fun h => absurd h3 h)
          refine XW.bk B [(134, .aload_n 0)] (by decide +kernel) (pc1 := 135) (ls1 := [some (aR 0 0), some (aI x1), some (aI x2), none]) (st1 := [aR 0 0]) (σ1 := (sI (sI q1.2 0 0 26 ((σ.1 0 0 26) + (q1.1 + (0 : Int32)))) 0 0 25 x1)) (P := []) rfl trivial ?_
          refine XW.callV B (M := M_X11_bears) (t := 0) (j := 0) (cn := 1) (as := []) (c_X11_bears (sI (sI q1.2 0 0 26 ((σ.1 0 0 26) + (q1.1 + (0 : Int32)))) 0 0 25 x1) rfl) (by decide) wV_X11_bears wN_X11_bears lk_X11_216 rfl rfl rfl (by decide) rfl (Nat.le_of_ble_eq_true rfl) (by decide +kernel) ?_
          refine XW.bb B [(138, .aload_n 0), (139, .getfield 279), (142, .isub), (143, .istore_n 3), (144, .aload_n 0), (145, .dup), (146, .getfield 291), (149, .iconst 1), (150, .iadd), (151, .putfield 291), (154, .aload_n 0), (155, .aload_n 0), (156, .getfield 69), (159, .ldc 68)] (by decide +kernel) (pc1 := 161) (ls1 := [some (aR 0 0), some (aI x1), some (aI x2), some (aI ((m_X11_bears (sI (sI q1.2 0 0 26 ((σ.1 0 0 26) + (q1.1 + (0 : Int32)))) 0 0 25 x1)) - ((σ.1 0 0 26) + (q1.1 + (0 : Int32)))))]) (st1 := [aI (-2000000000 : Int32), aI (q1.2.1 0 0 31), aR 0 0]) (σ1 := (sI (sI (sI q1.2 0 0 26 ((σ.1 0 0 26) + (q1.1 + (0 : Int32)))) 0 0 25 x1) 0 0 27 ((q1.2.1 0 0 27) + (1 : Int32)))) (P := []) (i := .if_icmp .eq 11) (tgt := 172) (q := (q1.2.1 0 0 31) = (-2000000000 : Int32)) rfl trivial (by decide +kernel) rfl (by decide) (fun h6 => ?_) (fun h6 => ?_)
          · rw [if_pos h6] at hm
            refine XW.bk B [(172, .iload_n 3), (173, .goto 7), (180, .putfield 69), (183, .aload_n 0), (184, .iconst (-1)), (185, .putfield 72), (188, .iconst 1)] (by decide +kernel) (pc1 := 189) (ls1 := [some (aR 0 0), some (aI x1), some (aI x2), some (aI ((m_X11_bears (sI (sI q1.2 0 0 26 ((σ.1 0 0 26) + (q1.1 + (0 : Int32)))) 0 0 25 x1)) - ((σ.1 0 0 26) + (q1.1 + (0 : Int32)))))]) (st1 := [aI (1 : Int32)]) (σ1 := (sI (sI (sI (sI (sI q1.2 0 0 26 ((σ.1 0 0 26) + (q1.1 + (0 : Int32)))) 0 0 25 x1) 0 0 27 ((q1.2.1 0 0 27) + (1 : Int32))) 0 0 31 ((m_X11_bears (sI (sI q1.2 0 0 26 ((σ.1 0 0 26) + (q1.1 + (0 : Int32)))) 0 0 25 x1)) - ((σ.1 0 0 26) + (q1.1 + (0 : Int32))))) 0 0 23 (-1 : Int32))) (P := []) rfl trivial ?_
            obtain ⟨rfl, rfl⟩ := Prod.mk.inj (Option.some.inj hm)
            exact XW.iret B q (by decide +kernel)
          · rw [if_neg h6] at hm
            refine XW.bb B [(164, .iload_n 3), (165, .aload_n 0), (166, .getfield 69)] (by decide +kernel) (pc1 := 169) (ls1 := [some (aR 0 0), some (aI x1), some (aI x2), some (aI ((m_X11_bears (sI (sI q1.2 0 0 26 ((σ.1 0 0 26) + (q1.1 + (0 : Int32)))) 0 0 25 x1)) - ((σ.1 0 0 26) + (q1.1 + (0 : Int32)))))]) (st1 := [aI (q1.2.1 0 0 31), aI ((m_X11_bears (sI (sI q1.2 0 0 26 ((σ.1 0 0 26) + (q1.1 + (0 : Int32)))) 0 0 25 x1)) - ((σ.1 0 0 26) + (q1.1 + (0 : Int32)))), aR 0 0]) (σ1 := (sI (sI (sI q1.2 0 0 26 ((σ.1 0 0 26) + (q1.1 + (0 : Int32)))) 0 0 25 x1) 0 0 27 ((q1.2.1 0 0 27) + (1 : Int32)))) (P := []) (i := .if_icmp .ge 7) (tgt := 176) (q := (q1.2.1 0 0 31) ≤ ((m_X11_bears (sI (sI q1.2 0 0 26 ((σ.1 0 0 26) + (q1.1 + (0 : Int32)))) 0 0 25 x1)) - ((σ.1 0 0 26) + (q1.1 + (0 : Int32))))) rfl trivial (by decide +kernel) rfl (by decide) (fun h7 => ?_) (fun h7 => ?_)
            · rw [if_pos h7] at hm
              refine XW.bk B [(176, .aload_n 0), (177, .getfield 69), (180, .putfield 69), (183, .aload_n 0), (184, .iconst (-1)), (185, .putfield 72), (188, .iconst 1)] (by decide +kernel) (pc1 := 189) (ls1 := [some (aR 0 0), some (aI x1), some (aI x2), some (aI ((m_X11_bears (sI (sI q1.2 0 0 26 ((σ.1 0 0 26) + (q1.1 + (0 : Int32)))) 0 0 25 x1)) - ((σ.1 0 0 26) + (q1.1 + (0 : Int32)))))]) (st1 := [aI (1 : Int32)]) (σ1 := (sI (sI (sI (sI (sI q1.2 0 0 26 ((σ.1 0 0 26) + (q1.1 + (0 : Int32)))) 0 0 25 x1) 0 0 27 ((q1.2.1 0 0 27) + (1 : Int32))) 0 0 31 (q1.2.1 0 0 31)) 0 0 23 (-1 : Int32))) (P := []) rfl trivial ?_
              obtain ⟨rfl, rfl⟩ := Prod.mk.inj (Option.some.inj hm)
              exact XW.iret B q (by decide +kernel)
            · rw [if_neg h7] at hm
              refine XW.bk B [(172, .iload_n 3), (173, .goto 7), (180, .putfield 69), (183, .aload_n 0), (184, .iconst (-1)), (185, .putfield 72), (188, .iconst 1)] (by decide +kernel) (pc1 := 189) (ls1 := [some (aR 0 0), some (aI x1), some (aI x2), some (aI ((m_X11_bears (sI (sI q1.2 0 0 26 ((σ.1 0 0 26) + (q1.1 + (0 : Int32)))) 0 0 25 x1)) - ((σ.1 0 0 26) + (q1.1 + (0 : Int32)))))]) (st1 := [aI (1 : Int32)]) (σ1 := (sI (sI (sI (sI (sI q1.2 0 0 26 ((σ.1 0 0 26) + (q1.1 + (0 : Int32)))) 0 0 25 x1) 0 0 27 ((q1.2.1 0 0 27) + (1 : Int32))) 0 0 31 ((m_X11_bears (sI (sI q1.2 0 0 26 ((σ.1 0 0 26) + (q1.1 + (0 : Int32)))) 0 0 25 x1)) - ((σ.1 0 0 26) + (q1.1 + (0 : Int32))))) 0 0 23 (-1 : Int32))) (P := []) rfl trivial ?_
              obtain ⟨rfl, rfl⟩ := Prod.mk.inj (Option.some.inj hm)
              exact XW.iret B q (by decide +kernel)
        · rw [if_neg h5] at hm
          refine XW.bk B [(188, .iconst 1)] (by decide +kernel) (pc1 := 189) (ls1 := [some (aR 0 0), some (aI x1), some (aI x2), none]) (st1 := [aI (1 : Int32)]) (σ1 := (sI (sI q1.2 0 0 26 ((σ.1 0 0 26) + (q1.1 + (0 : Int32)))) 0 0 25 x1)) (P := []) rfl trivial ?_
          obtain ⟨rfl, rfl⟩ := Prod.mk.inj (Option.some.inj hm)
          exact XW.iret B q (by decide +kernel)
      · rw [if_neg h4] at hm
        refine XW.bk B [(100, .aload_n 0), (101, .dup), (102, .getfield 288), (105, .iconst 1), (106, .iadd), (107, .putfield 288), (110, .aload_n 0), (111, .iconst (-1)), (112, .putfield 72), (115, .iconst 0)] (by decide +kernel) (pc1 := 116) (ls1 := [some (aR 0 0), some (aI x1), some (aI x2), none]) (st1 := [aI (0 : Int32)]) (σ1 := (sI (sI (sI (sI q1.2 0 0 26 ((σ.1 0 0 26) + (q1.1 + (0 : Int32)))) 0 0 25 x1) 0 0 28 ((q1.2.1 0 0 28) + (1 : Int32))) 0 0 23 (-1 : Int32))) (P := []) rfl trivial ?_
        obtain ⟨rfl, rfl⟩ := Prod.mk.inj (Option.some.inj hm)
        exact XW.iret B q (by decide +kernel)
    · rw [if_neg h3] at hm
      refine XW.bk B [(47, .aload_n 0), (48, .aload_n 0), (49, .getfield 72), (52, .aload_n 0), (53, .getfield 282)] (by decide +kernel) (pc1 := 56) (ls1 := [some (aR 0 0), some (aI x1), some (aI x2), none]) (st1 := [aI (q1.2.1 0 0 24), aI (q1.2.1 0 0 23), aR 0 0]) (σ1 := (sI q1.2 0 0 26 ((σ.1 0 0 26) + (q1.1 + (0 : Int32))))) (P := []) rfl trivial ?_
      obtain ⟨q8, hq8, hm⟩ := obind_eq hm
      refine XW.callV B (M := M_X11_windAt) (t := 0) (j := 0) (cn := 1) (as := [aI (q1.2.1 0 0 23), aI (q1.2.1 0 0 24)]) (c_X11_windAt (q1.2.1 0 0 23) (q1.2.1 0 0 24) (sI q1.2 0 0 26 ((σ.1 0 0 26) + (q1.1 + (0 : Int32)))) hq8) (by decide) wV_X11_windAt wN_X11_windAt lk_X11_142 rfl rfl rfl (by decide) rfl (Nat.le_of_ble_eq_true rfl) (by decide +kernel) ?_
      refine XW.bn B [] (by decide +kernel) (pc1 := 59) (ls1 := [some (aR 0 0), some (aI x1), some (aI x2), none]) (st1 := [aI q8]) (σ1 := (sI q1.2 0 0 26 ((σ.1 0 0 26) + (q1.1 + (0 : Int32))))) (P := []) (i := .ifCond .ne 25) (tgt := 84) (q := q8 = (0 : Int32)) rfl trivial (by decide +kernel) rfl (by decide) (fun h9 => ?_) (fun h9 => ?_)
      · rw [if_pos h9] at hm
        refine XW.bb B [(62, .aload_n 0), (63, .aload_n 0), (64, .getfield 279), (67, .iconst 3)] (by decide +kernel) (pc1 := 68) (ls1 := [some (aR 0 0), some (aI x1), some (aI x2), none]) (st1 := [aI (3 : Int32), aI ((σ.1 0 0 26) + (q1.1 + (0 : Int32))), aR 0 0]) (σ1 := (sI q1.2 0 0 26 ((σ.1 0 0 26) + (q1.1 + (0 : Int32))))) (P := []) (i := .if_icmp .le 12) (tgt := 80) (q := ((σ.1 0 0 26) + (q1.1 + (0 : Int32))) ≤ (3 : Int32)) rfl trivial (by decide +kernel) rfl (by decide) (fun h10 => ?_) (fun h10 => ?_)
        · rw [if_pos h10] at hm
          refine XW.bk B [(80, .iconst 0), (81, .putfield 279), (84, .aload_n 0), (85, .iload_n 1), (86, .putfield 285), (89, .aload_n 0), (90, .getfield 279), (93, .aload_n 0)] (by decide +kernel) (pc1 := 94) (ls1 := [some (aR 0 0), some (aI x1), some (aI x2), none]) (st1 := [aR 0 0, aI (0 : Int32)]) (σ1 := (sI (sI (sI q1.2 0 0 26 ((σ.1 0 0 26) + (q1.1 + (0 : Int32)))) 0 0 26 (0 : Int32)) 0 0 25 x1)) (P := []) rfl trivial ?_
          refine XW.callV B (M := M_X11_bears) (t := 0) (j := 0) (cn := 1) (as := []) (c_X11_bears (sI (sI (sI q1.2 0 0 26 ((σ.1 0 0 26) + (q1.1 + (0 : Int32)))) 0 0 26 (0 : Int32)) 0 0 25 x1) rfl) (by decide) wV_X11_bears wN_X11_bears lk_X11_216 rfl rfl rfl (by decide) rfl (Nat.le_of_ble_eq_true rfl) (by decide +kernel) ?_
          refine XW.bb B [] (by decide +kernel) (pc1 := 97) (ls1 := [some (aR 0 0), some (aI x1), some (aI x2), none]) (st1 := [aI (m_X11_bears (sI (sI (sI q1.2 0 0 26 ((σ.1 0 0 26) + (q1.1 + (0 : Int32)))) 0 0 26 (0 : Int32)) 0 0 25 x1)), aI (0 : Int32)]) (σ1 := (sI (sI (sI q1.2 0 0 26 ((σ.1 0 0 26) + (q1.1 + (0 : Int32)))) 0 0 26 (0 : Int32)) 0 0 25 x1)) (P := []) (i := .if_icmp .le 20) (tgt := 117) (q := (0 : Int32) ≤ (m_X11_bears (sI (sI (sI q1.2 0 0 26 ((σ.1 0 0 26) + (q1.1 + (0 : Int32)))) 0 0 26 (0 : Int32)) 0 0 25 x1))) rfl trivial (by decide +kernel) rfl (by decide) (fun h11 => ?_) (fun h11 => ?_)
          · rw [if_pos h11] at hm
            refine XW.bn B [(117, .aload_n 0), (118, .getfield 72), (121, .aload_n 0), (122, .getfield 81), (125, .iconst 1), (126, .isub)] (by decide +kernel) (pc1 := 127) (ls1 := [some (aR 0 0), some (aI x1), some (aI x2), none]) (st1 := [aI ((q1.2.1 0 0 6) - (1 : Int32)), aI (q1.2.1 0 0 23)]) (σ1 := (sI (sI (sI q1.2 0 0 26 ((σ.1 0 0 26) + (q1.1 + (0 : Int32)))) 0 0 26 (0 : Int32)) 0 0 25 x1)) (P := []) (i := .if_icmp .ne 61) (tgt := 188) (q := (q1.2.1 0 0 23) = ((q1.2.1 0 0 6) - (1 : Int32))) rfl trivial (by decide +kernel) rfl (by decide) (fun h12 => ?_) (fun h12 => ?_)
            · rw [if_pos h12] at hm
              refine XW.bn B [(130, .iload_n 2)] (by decide +kernel) (pc1 := 131) (ls1 := [some (aR 0 0), some (aI x1), some (aI x2), none]) (st1 := [aI x2]) (σ1 := (sI (sI (sI q1.2 0 0 26 ((σ.1 0 0 26) + (q1.1 + (0 : Int32)))) 0 0 26 (0 : Int32)) 0 0 25 x1)) (P := []) (i := .ifCond .ne 57) (tgt := 188) (q := x2 = (0 : Int32)) rfl trivial (by decide +kernel) rfl (by decide) (fun h => absurd h h3) (fun _ => ?_)
              refine XW.bk B [(188, .iconst 1)] (by decide +kernel) (pc1 := 189) (ls1 := [some (aR 0 0), some (aI x1), some (aI x2), none]) (st1 := [aI (1 : Int32)]) (σ1 := (sI (sI (sI q1.2 0 0 26 ((σ.1 0 0 26) + (q1.1 + (0 : Int32)))) 0 0 26 (0 : Int32)) 0 0 25 x1)) (P := []) rfl trivial ?_
              obtain ⟨rfl, rfl⟩ := Prod.mk.inj (Option.some.inj hm)
              exact XW.iret B q (by decide +kernel)
            · rw [if_neg h12] at hm
              refine XW.bk B [(188, .iconst 1)] (by decide +kernel) (pc1 := 189) (ls1 := [some (aR 0 0), some (aI x1), some (aI x2), none]) (st1 := [aI (1 : Int32)]) (σ1 := (sI (sI (sI q1.2 0 0 26 ((σ.1 0 0 26) + (q1.1 + (0 : Int32)))) 0 0 26 (0 : Int32)) 0 0 25 x1)) (P := []) rfl trivial ?_
              obtain ⟨rfl, rfl⟩ := Prod.mk.inj (Option.some.inj hm)
              exact XW.iret B q (by decide +kernel)
          · rw [if_neg h11] at hm
            refine XW.bk B [(100, .aload_n 0), (101, .dup), (102, .getfield 288), (105, .iconst 1), (106, .iadd), (107, .putfield 288), (110, .aload_n 0), (111, .iconst (-1)), (112, .putfield 72), (115, .iconst 0)] (by decide +kernel) (pc1 := 116) (ls1 := [some (aR 0 0), some (aI x1), some (aI x2), none]) (st1 := [aI (0 : Int32)]) (σ1 := (sI (sI (sI (sI (sI q1.2 0 0 26 ((σ.1 0 0 26) + (q1.1 + (0 : Int32)))) 0 0 26 (0 : Int32)) 0 0 25 x1) 0 0 28 ((q1.2.1 0 0 28) + (1 : Int32))) 0 0 23 (-1 : Int32))) (P := []) rfl trivial ?_
            obtain ⟨rfl, rfl⟩ := Prod.mk.inj (Option.some.inj hm)
            exact XW.iret B q (by decide +kernel)
        · rw [if_neg h10] at hm
          refine XW.bk B [(71, .aload_n 0), (72, .getfield 279), (75, .iconst 3), (76, .isub), (77, .goto 4), (81, .putfield 279), (84, .aload_n 0), (85, .iload_n 1), (86, .putfield 285), (89, .aload_n 0), (90, .getfield 279), (93, .aload_n 0)] (by decide +kernel) (pc1 := 94) (ls1 := [some (aR 0 0), some (aI x1), some (aI x2), none]) (st1 := [aR 0 0, aI (((σ.1 0 0 26) + (q1.1 + (0 : Int32))) - (3 : Int32))]) (σ1 := (sI (sI (sI q1.2 0 0 26 ((σ.1 0 0 26) + (q1.1 + (0 : Int32)))) 0 0 26 (((σ.1 0 0 26) + (q1.1 + (0 : Int32))) - (3 : Int32))) 0 0 25 x1)) (P := []) rfl trivial ?_
          refine XW.callV B (M := M_X11_bears) (t := 0) (j := 0) (cn := 1) (as := []) (c_X11_bears (sI (sI (sI q1.2 0 0 26 ((σ.1 0 0 26) + (q1.1 + (0 : Int32)))) 0 0 26 (((σ.1 0 0 26) + (q1.1 + (0 : Int32))) - (3 : Int32))) 0 0 25 x1) rfl) (by decide) wV_X11_bears wN_X11_bears lk_X11_216 rfl rfl rfl (by decide) rfl (Nat.le_of_ble_eq_true rfl) (by decide +kernel) ?_
          refine XW.bb B [] (by decide +kernel) (pc1 := 97) (ls1 := [some (aR 0 0), some (aI x1), some (aI x2), none]) (st1 := [aI (m_X11_bears (sI (sI (sI q1.2 0 0 26 ((σ.1 0 0 26) + (q1.1 + (0 : Int32)))) 0 0 26 (((σ.1 0 0 26) + (q1.1 + (0 : Int32))) - (3 : Int32))) 0 0 25 x1)), aI (((σ.1 0 0 26) + (q1.1 + (0 : Int32))) - (3 : Int32))]) (σ1 := (sI (sI (sI q1.2 0 0 26 ((σ.1 0 0 26) + (q1.1 + (0 : Int32)))) 0 0 26 (((σ.1 0 0 26) + (q1.1 + (0 : Int32))) - (3 : Int32))) 0 0 25 x1)) (P := []) (i := .if_icmp .le 20) (tgt := 117) (q := (((σ.1 0 0 26) + (q1.1 + (0 : Int32))) - (3 : Int32)) ≤ (m_X11_bears (sI (sI (sI q1.2 0 0 26 ((σ.1 0 0 26) + (q1.1 + (0 : Int32)))) 0 0 26 (((σ.1 0 0 26) + (q1.1 + (0 : Int32))) - (3 : Int32))) 0 0 25 x1))) rfl trivial (by decide +kernel) rfl (by decide) (fun h13 => ?_) (fun h13 => ?_)
          · rw [if_pos h13] at hm
            refine XW.bn B [(117, .aload_n 0), (118, .getfield 72), (121, .aload_n 0), (122, .getfield 81), (125, .iconst 1), (126, .isub)] (by decide +kernel) (pc1 := 127) (ls1 := [some (aR 0 0), some (aI x1), some (aI x2), none]) (st1 := [aI ((q1.2.1 0 0 6) - (1 : Int32)), aI (q1.2.1 0 0 23)]) (σ1 := (sI (sI (sI q1.2 0 0 26 ((σ.1 0 0 26) + (q1.1 + (0 : Int32)))) 0 0 26 (((σ.1 0 0 26) + (q1.1 + (0 : Int32))) - (3 : Int32))) 0 0 25 x1)) (P := []) (i := .if_icmp .ne 61) (tgt := 188) (q := (q1.2.1 0 0 23) = ((q1.2.1 0 0 6) - (1 : Int32))) rfl trivial (by decide +kernel) rfl (by decide) (fun h14 => ?_) (fun h14 => ?_)
            · rw [if_pos h14] at hm
              refine XW.bn B [(130, .iload_n 2)] (by decide +kernel) (pc1 := 131) (ls1 := [some (aR 0 0), some (aI x1), some (aI x2), none]) (st1 := [aI x2]) (σ1 := (sI (sI (sI q1.2 0 0 26 ((σ.1 0 0 26) + (q1.1 + (0 : Int32)))) 0 0 26 (((σ.1 0 0 26) + (q1.1 + (0 : Int32))) - (3 : Int32))) 0 0 25 x1)) (P := []) (i := .ifCond .ne 57) (tgt := 188) (q := x2 = (0 : Int32)) rfl trivial (by decide +kernel) rfl (by decide) (fun h => absurd h h3) (fun _ => ?_)
              refine XW.bk B [(188, .iconst 1)] (by decide +kernel) (pc1 := 189) (ls1 := [some (aR 0 0), some (aI x1), some (aI x2), none]) (st1 := [aI (1 : Int32)]) (σ1 := (sI (sI (sI q1.2 0 0 26 ((σ.1 0 0 26) + (q1.1 + (0 : Int32)))) 0 0 26 (((σ.1 0 0 26) + (q1.1 + (0 : Int32))) - (3 : Int32))) 0 0 25 x1)) (P := []) rfl trivial ?_
              obtain ⟨rfl, rfl⟩ := Prod.mk.inj (Option.some.inj hm)
              exact XW.iret B q (by decide +kernel)
            · rw [if_neg h14] at hm
              refine XW.bk B [(188, .iconst 1)] (by decide +kernel) (pc1 := 189) (ls1 := [some (aR 0 0), some (aI x1), some (aI x2), none]) (st1 := [aI (1 : Int32)]) (σ1 := (sI (sI (sI q1.2 0 0 26 ((σ.1 0 0 26) + (q1.1 + (0 : Int32)))) 0 0 26 (((σ.1 0 0 26) + (q1.1 + (0 : Int32))) - (3 : Int32))) 0 0 25 x1)) (P := []) rfl trivial ?_
              obtain ⟨rfl, rfl⟩ := Prod.mk.inj (Option.some.inj hm)
              exact XW.iret B q (by decide +kernel)
          · rw [if_neg h13] at hm
            refine XW.bk B [(100, .aload_n 0), (101, .dup), (102, .getfield 288), (105, .iconst 1), (106, .iadd), (107, .putfield 288), (110, .aload_n 0), (111, .iconst (-1)), (112, .putfield 72), (115, .iconst 0)] (by decide +kernel) (pc1 := 116) (ls1 := [some (aR 0 0), some (aI x1), some (aI x2), none]) (st1 := [aI (0 : Int32)]) (σ1 := (sI (sI (sI (sI (sI q1.2 0 0 26 ((σ.1 0 0 26) + (q1.1 + (0 : Int32)))) 0 0 26 (((σ.1 0 0 26) + (q1.1 + (0 : Int32))) - (3 : Int32))) 0 0 25 x1) 0 0 28 ((q1.2.1 0 0 28) + (1 : Int32))) 0 0 23 (-1 : Int32))) (P := []) rfl trivial ?_
            obtain ⟨rfl, rfl⟩ := Prod.mk.inj (Option.some.inj hm)
            exact XW.iret B q (by decide +kernel)
      · rw [if_neg h9] at hm
        refine XW.bk B [(84, .aload_n 0), (85, .iload_n 1), (86, .putfield 285), (89, .aload_n 0), (90, .getfield 279), (93, .aload_n 0)] (by decide +kernel) (pc1 := 94) (ls1 := [some (aR 0 0), some (aI x1), some (aI x2), none]) (st1 := [aR 0 0, aI ((σ.1 0 0 26) + (q1.1 + (0 : Int32)))]) (σ1 := (sI (sI q1.2 0 0 26 ((σ.1 0 0 26) + (q1.1 + (0 : Int32)))) 0 0 25 x1)) (P := []) rfl trivial ?_
        refine XW.callV B (M := M_X11_bears) (t := 0) (j := 0) (cn := 1) (as := []) (c_X11_bears (sI (sI q1.2 0 0 26 ((σ.1 0 0 26) + (q1.1 + (0 : Int32)))) 0 0 25 x1) rfl) (by decide) wV_X11_bears wN_X11_bears lk_X11_216 rfl rfl rfl (by decide) rfl (Nat.le_of_ble_eq_true rfl) (by decide +kernel) ?_
        refine XW.bb B [] (by decide +kernel) (pc1 := 97) (ls1 := [some (aR 0 0), some (aI x1), some (aI x2), none]) (st1 := [aI (m_X11_bears (sI (sI q1.2 0 0 26 ((σ.1 0 0 26) + (q1.1 + (0 : Int32)))) 0 0 25 x1)), aI ((σ.1 0 0 26) + (q1.1 + (0 : Int32)))]) (σ1 := (sI (sI q1.2 0 0 26 ((σ.1 0 0 26) + (q1.1 + (0 : Int32)))) 0 0 25 x1)) (P := []) (i := .if_icmp .le 20) (tgt := 117) (q := ((σ.1 0 0 26) + (q1.1 + (0 : Int32))) ≤ (m_X11_bears (sI (sI q1.2 0 0 26 ((σ.1 0 0 26) + (q1.1 + (0 : Int32)))) 0 0 25 x1))) rfl trivial (by decide +kernel) rfl (by decide) (fun h15 => ?_) (fun h15 => ?_)
        · rw [if_pos h15] at hm
          refine XW.bn B [(117, .aload_n 0), (118, .getfield 72), (121, .aload_n 0), (122, .getfield 81), (125, .iconst 1), (126, .isub)] (by decide +kernel) (pc1 := 127) (ls1 := [some (aR 0 0), some (aI x1), some (aI x2), none]) (st1 := [aI ((q1.2.1 0 0 6) - (1 : Int32)), aI (q1.2.1 0 0 23)]) (σ1 := (sI (sI q1.2 0 0 26 ((σ.1 0 0 26) + (q1.1 + (0 : Int32)))) 0 0 25 x1)) (P := []) (i := .if_icmp .ne 61) (tgt := 188) (q := (q1.2.1 0 0 23) = ((q1.2.1 0 0 6) - (1 : Int32))) rfl trivial (by decide +kernel) rfl (by decide) (fun h16 => ?_) (fun h16 => ?_)
          · rw [if_pos h16] at hm
            refine XW.bn B [(130, .iload_n 2)] (by decide +kernel) (pc1 := 131) (ls1 := [some (aR 0 0), some (aI x1), some (aI x2), none]) (st1 := [aI x2]) (σ1 := (sI (sI q1.2 0 0 26 ((σ.1 0 0 26) + (q1.1 + (0 : Int32)))) 0 0 25 x1)) (P := []) (i := .ifCond .ne 57) (tgt := 188) (q := x2 = (0 : Int32)) rfl trivial (by decide +kernel) rfl (by decide) (fun h => absurd h h3) (fun _ => ?_)
            refine XW.bk B [(188, .iconst 1)] (by decide +kernel) (pc1 := 189) (ls1 := [some (aR 0 0), some (aI x1), some (aI x2), none]) (st1 := [aI (1 : Int32)]) (σ1 := (sI (sI q1.2 0 0 26 ((σ.1 0 0 26) + (q1.1 + (0 : Int32)))) 0 0 25 x1)) (P := []) rfl trivial ?_
            obtain ⟨rfl, rfl⟩ := Prod.mk.inj (Option.some.inj hm)
            exact XW.iret B q (by decide +kernel)
          · rw [if_neg h16] at hm
            refine XW.bk B [(188, .iconst 1)] (by decide +kernel) (pc1 := 189) (ls1 := [some (aR 0 0), some (aI x1), some (aI x2), none]) (st1 := [aI (1 : Int32)]) (σ1 := (sI (sI q1.2 0 0 26 ((σ.1 0 0 26) + (q1.1 + (0 : Int32)))) 0 0 25 x1)) (P := []) rfl trivial ?_
            obtain ⟨rfl, rfl⟩ := Prod.mk.inj (Option.some.inj hm)
            exact XW.iret B q (by decide +kernel)
        · rw [if_neg h15] at hm
          refine XW.bk B [(100, .aload_n 0), (101, .dup), (102, .getfield 288), (105, .iconst 1), (106, .iadd), (107, .putfield 288), (110, .aload_n 0), (111, .iconst (-1)), (112, .putfield 72), (115, .iconst 0)] (by decide +kernel) (pc1 := 116) (ls1 := [some (aR 0 0), some (aI x1), some (aI x2), none]) (st1 := [aI (0 : Int32)]) (σ1 := (sI (sI (sI (sI q1.2 0 0 26 ((σ.1 0 0 26) + (q1.1 + (0 : Int32)))) 0 0 25 x1) 0 0 28 ((q1.2.1 0 0 28) + (1 : Int32))) 0 0 23 (-1 : Int32))) (P := []) rfl trivial ?_
          obtain ⟨rfl, rfl⟩ := Prod.mk.inj (Option.some.inj hm)
          exact XW.iret B q (by decide +kernel)
  · rw [if_neg h2] at hm
    refine XW.bb B [(25, .aload_n 0), (26, .getfield 285), (29, .iload_n 1)] (by decide +kernel) (pc1 := 30) (ls1 := [some (aR 0 0), some (aI x1), some (aI x2), none]) (st1 := [aI x1, aI (q1.2.1 0 0 25), aI q1.1, aI (σ.1 0 0 26), aR 0 0]) (σ1 := q1.2) (P := []) (i := .if_icmp .eq 7) (tgt := 37) (q := (q1.2.1 0 0 25) = x1) rfl trivial (by decide +kernel) rfl (by decide) (fun h17 => ?_) (fun h17 => ?_)
    · rw [if_pos h17] at hm
      refine XW.bb B [(37, .iconst 0), (38, .iadd), (39, .iadd), (40, .putfield 279), (43, .iload_n 2)] (by decide +kernel) (pc1 := 44) (ls1 := [some (aR 0 0), some (aI x1), some (aI x2), none]) (st1 := [aI x2]) (σ1 := (sI q1.2 0 0 26 ((σ.1 0 0 26) + (q1.1 + (0 : Int32))))) (P := []) (i := .ifCond .eq 40) (tgt := 84) (q := x2 = (0 : Int32)) rfl trivial (by decide +kernel) rfl (by decide) (fun h18 => ?_) (fun h18 => ?_)
      · rw [if_pos h18] at hm
        refine XW.bk B [(84, .aload_n 0), (85, .iload_n 1), (86, .putfield 285), (89, .aload_n 0), (90, .getfield 279), (93, .aload_n 0)] (by decide +kernel) (pc1 := 94) (ls1 := [some (aR 0 0), some (aI x1), some (aI x2), none]) (st1 := [aR 0 0, aI ((σ.1 0 0 26) + (q1.1 + (0 : Int32)))]) (σ1 := (sI (sI q1.2 0 0 26 ((σ.1 0 0 26) + (q1.1 + (0 : Int32)))) 0 0 25 x1)) (P := []) rfl trivial ?_
        refine XW.callV B (M := M_X11_bears) (t := 0) (j := 0) (cn := 1) (as := []) (c_X11_bears (sI (sI q1.2 0 0 26 ((σ.1 0 0 26) + (q1.1 + (0 : Int32)))) 0 0 25 x1) rfl) (by decide) wV_X11_bears wN_X11_bears lk_X11_216 rfl rfl rfl (by decide) rfl (Nat.le_of_ble_eq_true rfl) (by decide +kernel) ?_
        refine XW.bb B [] (by decide +kernel) (pc1 := 97) (ls1 := [some (aR 0 0), some (aI x1), some (aI x2), none]) (st1 := [aI (m_X11_bears (sI (sI q1.2 0 0 26 ((σ.1 0 0 26) + (q1.1 + (0 : Int32)))) 0 0 25 x1)), aI ((σ.1 0 0 26) + (q1.1 + (0 : Int32)))]) (σ1 := (sI (sI q1.2 0 0 26 ((σ.1 0 0 26) + (q1.1 + (0 : Int32)))) 0 0 25 x1)) (P := []) (i := .if_icmp .le 20) (tgt := 117) (q := ((σ.1 0 0 26) + (q1.1 + (0 : Int32))) ≤ (m_X11_bears (sI (sI q1.2 0 0 26 ((σ.1 0 0 26) + (q1.1 + (0 : Int32)))) 0 0 25 x1))) rfl trivial (by decide +kernel) rfl (by decide) (fun h19 => ?_) (fun h19 => ?_)
        · rw [if_pos h19] at hm
          refine XW.bn B [(117, .aload_n 0), (118, .getfield 72), (121, .aload_n 0), (122, .getfield 81), (125, .iconst 1), (126, .isub)] (by decide +kernel) (pc1 := 127) (ls1 := [some (aR 0 0), some (aI x1), some (aI x2), none]) (st1 := [aI ((q1.2.1 0 0 6) - (1 : Int32)), aI (q1.2.1 0 0 23)]) (σ1 := (sI (sI q1.2 0 0 26 ((σ.1 0 0 26) + (q1.1 + (0 : Int32)))) 0 0 25 x1)) (P := []) (i := .if_icmp .ne 61) (tgt := 188) (q := (q1.2.1 0 0 23) = ((q1.2.1 0 0 6) - (1 : Int32))) rfl trivial (by decide +kernel) rfl (by decide) (fun h20 => ?_) (fun h20 => ?_)
          · rw [if_pos h20] at hm
            refine XW.bn B [(130, .iload_n 2)] (by decide +kernel) (pc1 := 131) (ls1 := [some (aR 0 0), some (aI x1), some (aI x2), none]) (st1 := [aI x2]) (σ1 := (sI (sI q1.2 0 0 26 ((σ.1 0 0 26) + (q1.1 + (0 : Int32)))) 0 0 25 x1)) (P := []) (i := .ifCond .ne 57) (tgt := 188) (q := x2 = (0 : Int32)) rfl trivial (by decide +kernel) rfl (by decide) (fun _ => ?_) (fun h => absurd h18 h)
            refine XW.bk B [(134, .aload_n 0)] (by decide +kernel) (pc1 := 135) (ls1 := [some (aR 0 0), some (aI x1), some (aI x2), none]) (st1 := [aR 0 0]) (σ1 := (sI (sI q1.2 0 0 26 ((σ.1 0 0 26) + (q1.1 + (0 : Int32)))) 0 0 25 x1)) (P := []) rfl trivial ?_
            refine XW.callV B (M := M_X11_bears) (t := 0) (j := 0) (cn := 1) (as := []) (c_X11_bears (sI (sI q1.2 0 0 26 ((σ.1 0 0 26) + (q1.1 + (0 : Int32)))) 0 0 25 x1) rfl) (by decide) wV_X11_bears wN_X11_bears lk_X11_216 rfl rfl rfl (by decide) rfl (Nat.le_of_ble_eq_true rfl) (by decide +kernel) ?_
            refine XW.bb B [(138, .aload_n 0), (139, .getfield 279), (142, .isub), (143, .istore_n 3), (144, .aload_n 0), (145, .dup), (146, .getfield 291), (149, .iconst 1), (150, .iadd), (151, .putfield 291), (154, .aload_n 0), (155, .aload_n 0), (156, .getfield 69), (159, .ldc 68)] (by decide +kernel) (pc1 := 161) (ls1 := [some (aR 0 0), some (aI x1), some (aI x2), some (aI ((m_X11_bears (sI (sI q1.2 0 0 26 ((σ.1 0 0 26) + (q1.1 + (0 : Int32)))) 0 0 25 x1)) - ((σ.1 0 0 26) + (q1.1 + (0 : Int32)))))]) (st1 := [aI (-2000000000 : Int32), aI (q1.2.1 0 0 31), aR 0 0]) (σ1 := (sI (sI (sI q1.2 0 0 26 ((σ.1 0 0 26) + (q1.1 + (0 : Int32)))) 0 0 25 x1) 0 0 27 ((q1.2.1 0 0 27) + (1 : Int32)))) (P := []) (i := .if_icmp .eq 11) (tgt := 172) (q := (q1.2.1 0 0 31) = (-2000000000 : Int32)) rfl trivial (by decide +kernel) rfl (by decide) (fun h21 => ?_) (fun h21 => ?_)
            · rw [if_pos h21] at hm
              refine XW.bk B [(172, .iload_n 3), (173, .goto 7), (180, .putfield 69), (183, .aload_n 0), (184, .iconst (-1)), (185, .putfield 72), (188, .iconst 1)] (by decide +kernel) (pc1 := 189) (ls1 := [some (aR 0 0), some (aI x1), some (aI x2), some (aI ((m_X11_bears (sI (sI q1.2 0 0 26 ((σ.1 0 0 26) + (q1.1 + (0 : Int32)))) 0 0 25 x1)) - ((σ.1 0 0 26) + (q1.1 + (0 : Int32)))))]) (st1 := [aI (1 : Int32)]) (σ1 := (sI (sI (sI (sI (sI q1.2 0 0 26 ((σ.1 0 0 26) + (q1.1 + (0 : Int32)))) 0 0 25 x1) 0 0 27 ((q1.2.1 0 0 27) + (1 : Int32))) 0 0 31 ((m_X11_bears (sI (sI q1.2 0 0 26 ((σ.1 0 0 26) + (q1.1 + (0 : Int32)))) 0 0 25 x1)) - ((σ.1 0 0 26) + (q1.1 + (0 : Int32))))) 0 0 23 (-1 : Int32))) (P := []) rfl trivial ?_
              obtain ⟨rfl, rfl⟩ := Prod.mk.inj (Option.some.inj hm)
              exact XW.iret B q (by decide +kernel)
            · rw [if_neg h21] at hm
              refine XW.bb B [(164, .iload_n 3), (165, .aload_n 0), (166, .getfield 69)] (by decide +kernel) (pc1 := 169) (ls1 := [some (aR 0 0), some (aI x1), some (aI x2), some (aI ((m_X11_bears (sI (sI q1.2 0 0 26 ((σ.1 0 0 26) + (q1.1 + (0 : Int32)))) 0 0 25 x1)) - ((σ.1 0 0 26) + (q1.1 + (0 : Int32)))))]) (st1 := [aI (q1.2.1 0 0 31), aI ((m_X11_bears (sI (sI q1.2 0 0 26 ((σ.1 0 0 26) + (q1.1 + (0 : Int32)))) 0 0 25 x1)) - ((σ.1 0 0 26) + (q1.1 + (0 : Int32)))), aR 0 0]) (σ1 := (sI (sI (sI q1.2 0 0 26 ((σ.1 0 0 26) + (q1.1 + (0 : Int32)))) 0 0 25 x1) 0 0 27 ((q1.2.1 0 0 27) + (1 : Int32)))) (P := []) (i := .if_icmp .ge 7) (tgt := 176) (q := (q1.2.1 0 0 31) ≤ ((m_X11_bears (sI (sI q1.2 0 0 26 ((σ.1 0 0 26) + (q1.1 + (0 : Int32)))) 0 0 25 x1)) - ((σ.1 0 0 26) + (q1.1 + (0 : Int32))))) rfl trivial (by decide +kernel) rfl (by decide) (fun h22 => ?_) (fun h22 => ?_)
              · rw [if_pos h22] at hm
                refine XW.bk B [(176, .aload_n 0), (177, .getfield 69), (180, .putfield 69), (183, .aload_n 0), (184, .iconst (-1)), (185, .putfield 72), (188, .iconst 1)] (by decide +kernel) (pc1 := 189) (ls1 := [some (aR 0 0), some (aI x1), some (aI x2), some (aI ((m_X11_bears (sI (sI q1.2 0 0 26 ((σ.1 0 0 26) + (q1.1 + (0 : Int32)))) 0 0 25 x1)) - ((σ.1 0 0 26) + (q1.1 + (0 : Int32)))))]) (st1 := [aI (1 : Int32)]) (σ1 := (sI (sI (sI (sI (sI q1.2 0 0 26 ((σ.1 0 0 26) + (q1.1 + (0 : Int32)))) 0 0 25 x1) 0 0 27 ((q1.2.1 0 0 27) + (1 : Int32))) 0 0 31 (q1.2.1 0 0 31)) 0 0 23 (-1 : Int32))) (P := []) rfl trivial ?_
                obtain ⟨rfl, rfl⟩ := Prod.mk.inj (Option.some.inj hm)
                exact XW.iret B q (by decide +kernel)
              · rw [if_neg h22] at hm
                refine XW.bk B [(172, .iload_n 3), (173, .goto 7), (180, .putfield 69), (183, .aload_n 0), (184, .iconst (-1)), (185, .putfield 72), (188, .iconst 1)] (by decide +kernel) (pc1 := 189) (ls1 := [some (aR 0 0), some (aI x1), some (aI x2), some (aI ((m_X11_bears (sI (sI q1.2 0 0 26 ((σ.1 0 0 26) + (q1.1 + (0 : Int32)))) 0 0 25 x1)) - ((σ.1 0 0 26) + (q1.1 + (0 : Int32)))))]) (st1 := [aI (1 : Int32)]) (σ1 := (sI (sI (sI (sI (sI q1.2 0 0 26 ((σ.1 0 0 26) + (q1.1 + (0 : Int32)))) 0 0 25 x1) 0 0 27 ((q1.2.1 0 0 27) + (1 : Int32))) 0 0 31 ((m_X11_bears (sI (sI q1.2 0 0 26 ((σ.1 0 0 26) + (q1.1 + (0 : Int32)))) 0 0 25 x1)) - ((σ.1 0 0 26) + (q1.1 + (0 : Int32))))) 0 0 23 (-1 : Int32))) (P := []) rfl trivial ?_
                obtain ⟨rfl, rfl⟩ := Prod.mk.inj (Option.some.inj hm)
                exact XW.iret B q (by decide +kernel)
          · rw [if_neg h20] at hm
            refine XW.bk B [(188, .iconst 1)] (by decide +kernel) (pc1 := 189) (ls1 := [some (aR 0 0), some (aI x1), some (aI x2), none]) (st1 := [aI (1 : Int32)]) (σ1 := (sI (sI q1.2 0 0 26 ((σ.1 0 0 26) + (q1.1 + (0 : Int32)))) 0 0 25 x1)) (P := []) rfl trivial ?_
            obtain ⟨rfl, rfl⟩ := Prod.mk.inj (Option.some.inj hm)
            exact XW.iret B q (by decide +kernel)
        · rw [if_neg h19] at hm
          refine XW.bk B [(100, .aload_n 0), (101, .dup), (102, .getfield 288), (105, .iconst 1), (106, .iadd), (107, .putfield 288), (110, .aload_n 0), (111, .iconst (-1)), (112, .putfield 72), (115, .iconst 0)] (by decide +kernel) (pc1 := 116) (ls1 := [some (aR 0 0), some (aI x1), some (aI x2), none]) (st1 := [aI (0 : Int32)]) (σ1 := (sI (sI (sI (sI q1.2 0 0 26 ((σ.1 0 0 26) + (q1.1 + (0 : Int32)))) 0 0 25 x1) 0 0 28 ((q1.2.1 0 0 28) + (1 : Int32))) 0 0 23 (-1 : Int32))) (P := []) rfl trivial ?_
          obtain ⟨rfl, rfl⟩ := Prod.mk.inj (Option.some.inj hm)
          exact XW.iret B q (by decide +kernel)
      · rw [if_neg h18] at hm
        refine XW.bk B [(47, .aload_n 0), (48, .aload_n 0), (49, .getfield 72), (52, .aload_n 0), (53, .getfield 282)] (by decide +kernel) (pc1 := 56) (ls1 := [some (aR 0 0), some (aI x1), some (aI x2), none]) (st1 := [aI (q1.2.1 0 0 24), aI (q1.2.1 0 0 23), aR 0 0]) (σ1 := (sI q1.2 0 0 26 ((σ.1 0 0 26) + (q1.1 + (0 : Int32))))) (P := []) rfl trivial ?_
        obtain ⟨q23, hq23, hm⟩ := obind_eq hm
        refine XW.callV B (M := M_X11_windAt) (t := 0) (j := 0) (cn := 1) (as := [aI (q1.2.1 0 0 23), aI (q1.2.1 0 0 24)]) (c_X11_windAt (q1.2.1 0 0 23) (q1.2.1 0 0 24) (sI q1.2 0 0 26 ((σ.1 0 0 26) + (q1.1 + (0 : Int32)))) hq23) (by decide) wV_X11_windAt wN_X11_windAt lk_X11_142 rfl rfl rfl (by decide) rfl (Nat.le_of_ble_eq_true rfl) (by decide +kernel) ?_
        refine XW.bn B [] (by decide +kernel) (pc1 := 59) (ls1 := [some (aR 0 0), some (aI x1), some (aI x2), none]) (st1 := [aI q23]) (σ1 := (sI q1.2 0 0 26 ((σ.1 0 0 26) + (q1.1 + (0 : Int32))))) (P := []) (i := .ifCond .ne 25) (tgt := 84) (q := q23 = (0 : Int32)) rfl trivial (by decide +kernel) rfl (by decide) (fun h24 => ?_) (fun h24 => ?_)
        · rw [if_pos h24] at hm
          refine XW.bb B [(62, .aload_n 0), (63, .aload_n 0), (64, .getfield 279), (67, .iconst 3)] (by decide +kernel) (pc1 := 68) (ls1 := [some (aR 0 0), some (aI x1), some (aI x2), none]) (st1 := [aI (3 : Int32), aI ((σ.1 0 0 26) + (q1.1 + (0 : Int32))), aR 0 0]) (σ1 := (sI q1.2 0 0 26 ((σ.1 0 0 26) + (q1.1 + (0 : Int32))))) (P := []) (i := .if_icmp .le 12) (tgt := 80) (q := ((σ.1 0 0 26) + (q1.1 + (0 : Int32))) ≤ (3 : Int32)) rfl trivial (by decide +kernel) rfl (by decide) (fun h25 => ?_) (fun h25 => ?_)
          · rw [if_pos h25] at hm
            refine XW.bk B [(80, .iconst 0), (81, .putfield 279), (84, .aload_n 0), (85, .iload_n 1), (86, .putfield 285), (89, .aload_n 0), (90, .getfield 279), (93, .aload_n 0)] (by decide +kernel) (pc1 := 94) (ls1 := [some (aR 0 0), some (aI x1), some (aI x2), none]) (st1 := [aR 0 0, aI (0 : Int32)]) (σ1 := (sI (sI (sI q1.2 0 0 26 ((σ.1 0 0 26) + (q1.1 + (0 : Int32)))) 0 0 26 (0 : Int32)) 0 0 25 x1)) (P := []) rfl trivial ?_
            refine XW.callV B (M := M_X11_bears) (t := 0) (j := 0) (cn := 1) (as := []) (c_X11_bears (sI (sI (sI q1.2 0 0 26 ((σ.1 0 0 26) + (q1.1 + (0 : Int32)))) 0 0 26 (0 : Int32)) 0 0 25 x1) rfl) (by decide) wV_X11_bears wN_X11_bears lk_X11_216 rfl rfl rfl (by decide) rfl (Nat.le_of_ble_eq_true rfl) (by decide +kernel) ?_
            refine XW.bb B [] (by decide +kernel) (pc1 := 97) (ls1 := [some (aR 0 0), some (aI x1), some (aI x2), none]) (st1 := [aI (m_X11_bears (sI (sI (sI q1.2 0 0 26 ((σ.1 0 0 26) + (q1.1 + (0 : Int32)))) 0 0 26 (0 : Int32)) 0 0 25 x1)), aI (0 : Int32)]) (σ1 := (sI (sI (sI q1.2 0 0 26 ((σ.1 0 0 26) + (q1.1 + (0 : Int32)))) 0 0 26 (0 : Int32)) 0 0 25 x1)) (P := []) (i := .if_icmp .le 20) (tgt := 117) (q := (0 : Int32) ≤ (m_X11_bears (sI (sI (sI q1.2 0 0 26 ((σ.1 0 0 26) + (q1.1 + (0 : Int32)))) 0 0 26 (0 : Int32)) 0 0 25 x1))) rfl trivial (by decide +kernel) rfl (by decide) (fun h26 => ?_) (fun h26 => ?_)
            · rw [if_pos h26] at hm
              refine XW.bn B [(117, .aload_n 0), (118, .getfield 72), (121, .aload_n 0), (122, .getfield 81), (125, .iconst 1), (126, .isub)] (by decide +kernel) (pc1 := 127) (ls1 := [some (aR 0 0), some (aI x1), some (aI x2), none]) (st1 := [aI ((q1.2.1 0 0 6) - (1 : Int32)), aI (q1.2.1 0 0 23)]) (σ1 := (sI (sI (sI q1.2 0 0 26 ((σ.1 0 0 26) + (q1.1 + (0 : Int32)))) 0 0 26 (0 : Int32)) 0 0 25 x1)) (P := []) (i := .if_icmp .ne 61) (tgt := 188) (q := (q1.2.1 0 0 23) = ((q1.2.1 0 0 6) - (1 : Int32))) rfl trivial (by decide +kernel) rfl (by decide) (fun h27 => ?_) (fun h27 => ?_)
              · rw [if_pos h27] at hm
                refine XW.bn B [(130, .iload_n 2)] (by decide +kernel) (pc1 := 131) (ls1 := [some (aR 0 0), some (aI x1), some (aI x2), none]) (st1 := [aI x2]) (σ1 := (sI (sI (sI q1.2 0 0 26 ((σ.1 0 0 26) + (q1.1 + (0 : Int32)))) 0 0 26 (0 : Int32)) 0 0 25 x1)) (P := []) (i := .ifCond .ne 57) (tgt := 188) (q := x2 = (0 : Int32)) rfl trivial (by decide +kernel) rfl (by decide) (fun h => absurd h h18) (fun _ => ?_)
                refine XW.bk B [(188, .iconst 1)] (by decide +kernel) (pc1 := 189) (ls1 := [some (aR 0 0), some (aI x1), some (aI x2), none]) (st1 := [aI (1 : Int32)]) (σ1 := (sI (sI (sI q1.2 0 0 26 ((σ.1 0 0 26) + (q1.1 + (0 : Int32)))) 0 0 26 (0 : Int32)) 0 0 25 x1)) (P := []) rfl trivial ?_
                obtain ⟨rfl, rfl⟩ := Prod.mk.inj (Option.some.inj hm)
                exact XW.iret B q (by decide +kernel)
              · rw [if_neg h27] at hm
                refine XW.bk B [(188, .iconst 1)] (by decide +kernel) (pc1 := 189) (ls1 := [some (aR 0 0), some (aI x1), some (aI x2), none]) (st1 := [aI (1 : Int32)]) (σ1 := (sI (sI (sI q1.2 0 0 26 ((σ.1 0 0 26) + (q1.1 + (0 : Int32)))) 0 0 26 (0 : Int32)) 0 0 25 x1)) (P := []) rfl trivial ?_
                obtain ⟨rfl, rfl⟩ := Prod.mk.inj (Option.some.inj hm)
                exact XW.iret B q (by decide +kernel)
            · rw [if_neg h26] at hm
              refine XW.bk B [(100, .aload_n 0), (101, .dup), (102, .getfield 288), (105, .iconst 1), (106, .iadd), (107, .putfield 288), (110, .aload_n 0), (111, .iconst (-1)), (112, .putfield 72), (115, .iconst 0)] (by decide +kernel) (pc1 := 116) (ls1 := [some (aR 0 0), some (aI x1), some (aI x2), none]) (st1 := [aI (0 : Int32)]) (σ1 := (sI (sI (sI (sI (sI q1.2 0 0 26 ((σ.1 0 0 26) + (q1.1 + (0 : Int32)))) 0 0 26 (0 : Int32)) 0 0 25 x1) 0 0 28 ((q1.2.1 0 0 28) + (1 : Int32))) 0 0 23 (-1 : Int32))) (P := []) rfl trivial ?_
              obtain ⟨rfl, rfl⟩ := Prod.mk.inj (Option.some.inj hm)
              exact XW.iret B q (by decide +kernel)
          · rw [if_neg h25] at hm
            refine XW.bk B [(71, .aload_n 0), (72, .getfield 279), (75, .iconst 3), (76, .isub), (77, .goto 4), (81, .putfield 279), (84, .aload_n 0), (85, .iload_n 1), (86, .putfield 285), (89, .aload_n 0), (90, .getfield 279), (93, .aload_n 0)] (by decide +kernel) (pc1 := 94) (ls1 := [some (aR 0 0), some (aI x1), some (aI x2), none]) (st1 := [aR 0 0, aI (((σ.1 0 0 26) + (q1.1 + (0 : Int32))) - (3 : Int32))]) (σ1 := (sI (sI (sI q1.2 0 0 26 ((σ.1 0 0 26) + (q1.1 + (0 : Int32)))) 0 0 26 (((σ.1 0 0 26) + (q1.1 + (0 : Int32))) - (3 : Int32))) 0 0 25 x1)) (P := []) rfl trivial ?_
            refine XW.callV B (M := M_X11_bears) (t := 0) (j := 0) (cn := 1) (as := []) (c_X11_bears (sI (sI (sI q1.2 0 0 26 ((σ.1 0 0 26) + (q1.1 + (0 : Int32)))) 0 0 26 (((σ.1 0 0 26) + (q1.1 + (0 : Int32))) - (3 : Int32))) 0 0 25 x1) rfl) (by decide) wV_X11_bears wN_X11_bears lk_X11_216 rfl rfl rfl (by decide) rfl (Nat.le_of_ble_eq_true rfl) (by decide +kernel) ?_
            refine XW.bb B [] (by decide +kernel) (pc1 := 97) (ls1 := [some (aR 0 0), some (aI x1), some (aI x2), none]) (st1 := [aI (m_X11_bears (sI (sI (sI q1.2 0 0 26 ((σ.1 0 0 26) + (q1.1 + (0 : Int32)))) 0 0 26 (((σ.1 0 0 26) + (q1.1 + (0 : Int32))) - (3 : Int32))) 0 0 25 x1)), aI (((σ.1 0 0 26) + (q1.1 + (0 : Int32))) - (3 : Int32))]) (σ1 := (sI (sI (sI q1.2 0 0 26 ((σ.1 0 0 26) + (q1.1 + (0 : Int32)))) 0 0 26 (((σ.1 0 0 26) + (q1.1 + (0 : Int32))) - (3 : Int32))) 0 0 25 x1)) (P := []) (i := .if_icmp .le 20) (tgt := 117) (q := (((σ.1 0 0 26) + (q1.1 + (0 : Int32))) - (3 : Int32)) ≤ (m_X11_bears (sI (sI (sI q1.2 0 0 26 ((σ.1 0 0 26) + (q1.1 + (0 : Int32)))) 0 0 26 (((σ.1 0 0 26) + (q1.1 + (0 : Int32))) - (3 : Int32))) 0 0 25 x1))) rfl trivial (by decide +kernel) rfl (by decide) (fun h28 => ?_) (fun h28 => ?_)
            · rw [if_pos h28] at hm
              refine XW.bn B [(117, .aload_n 0), (118, .getfield 72), (121, .aload_n 0), (122, .getfield 81), (125, .iconst 1), (126, .isub)] (by decide +kernel) (pc1 := 127) (ls1 := [some (aR 0 0), some (aI x1), some (aI x2), none]) (st1 := [aI ((q1.2.1 0 0 6) - (1 : Int32)), aI (q1.2.1 0 0 23)]) (σ1 := (sI (sI (sI q1.2 0 0 26 ((σ.1 0 0 26) + (q1.1 + (0 : Int32)))) 0 0 26 (((σ.1 0 0 26) + (q1.1 + (0 : Int32))) - (3 : Int32))) 0 0 25 x1)) (P := []) (i := .if_icmp .ne 61) (tgt := 188) (q := (q1.2.1 0 0 23) = ((q1.2.1 0 0 6) - (1 : Int32))) rfl trivial (by decide +kernel) rfl (by decide) (fun h29 => ?_) (fun h29 => ?_)
              · rw [if_pos h29] at hm
                refine XW.bn B [(130, .iload_n 2)] (by decide +kernel) (pc1 := 131) (ls1 := [some (aR 0 0), some (aI x1), some (aI x2), none]) (st1 := [aI x2]) (σ1 := (sI (sI (sI q1.2 0 0 26 ((σ.1 0 0 26) + (q1.1 + (0 : Int32)))) 0 0 26 (((σ.1 0 0 26) + (q1.1 + (0 : Int32))) - (3 : Int32))) 0 0 25 x1)) (P := []) (i := .ifCond .ne 57) (tgt := 188) (q := x2 = (0 : Int32)) rfl trivial (by decide +kernel) rfl (by decide) (fun h => absurd h h18) (fun _ => ?_)
                refine XW.bk B [(188, .iconst 1)] (by decide +kernel) (pc1 := 189) (ls1 := [some (aR 0 0), some (aI x1), some (aI x2), none]) (st1 := [aI (1 : Int32)]) (σ1 := (sI (sI (sI q1.2 0 0 26 ((σ.1 0 0 26) + (q1.1 + (0 : Int32)))) 0 0 26 (((σ.1 0 0 26) + (q1.1 + (0 : Int32))) - (3 : Int32))) 0 0 25 x1)) (P := []) rfl trivial ?_
                obtain ⟨rfl, rfl⟩ := Prod.mk.inj (Option.some.inj hm)
                exact XW.iret B q (by decide +kernel)
              · rw [if_neg h29] at hm
                refine XW.bk B [(188, .iconst 1)] (by decide +kernel) (pc1 := 189) (ls1 := [some (aR 0 0), some (aI x1), some (aI x2), none]) (st1 := [aI (1 : Int32)]) (σ1 := (sI (sI (sI q1.2 0 0 26 ((σ.1 0 0 26) + (q1.1 + (0 : Int32)))) 0 0 26 (((σ.1 0 0 26) + (q1.1 + (0 : Int32))) - (3 : Int32))) 0 0 25 x1)) (P := []) rfl trivial ?_
                obtain ⟨rfl, rfl⟩ := Prod.mk.inj (Option.some.inj hm)
                exact XW.iret B q (by decide +kernel)
            · rw [if_neg h28] at hm
              refine XW.bk B [(100, .aload_n 0), (101, .dup), (102, .getfield 288), (105, .iconst 1), (106, .iadd), (107, .putfield 288), (110, .aload_n 0), (111, .iconst (-1)), (112, .putfield 72), (115, .iconst 0)] (by decide +kernel) (pc1 := 116) (ls1 := [some (aR 0 0), some (aI x1), some (aI x2), none]) (st1 := [aI (0 : Int32)]) (σ1 := (sI (sI (sI (sI (sI q1.2 0 0 26 ((σ.1 0 0 26) + (q1.1 + (0 : Int32)))) 0 0 26 (((σ.1 0 0 26) + (q1.1 + (0 : Int32))) - (3 : Int32))) 0 0 25 x1) 0 0 28 ((q1.2.1 0 0 28) + (1 : Int32))) 0 0 23 (-1 : Int32))) (P := []) rfl trivial ?_
              obtain ⟨rfl, rfl⟩ := Prod.mk.inj (Option.some.inj hm)
              exact XW.iret B q (by decide +kernel)
        · rw [if_neg h24] at hm
          refine XW.bk B [(84, .aload_n 0), (85, .iload_n 1), (86, .putfield 285), (89, .aload_n 0), (90, .getfield 279), (93, .aload_n 0)] (by decide +kernel) (pc1 := 94) (ls1 := [some (aR 0 0), some (aI x1), some (aI x2), none]) (st1 := [aR 0 0, aI ((σ.1 0 0 26) + (q1.1 + (0 : Int32)))]) (σ1 := (sI (sI q1.2 0 0 26 ((σ.1 0 0 26) + (q1.1 + (0 : Int32)))) 0 0 25 x1)) (P := []) rfl trivial ?_
          refine XW.callV B (M := M_X11_bears) (t := 0) (j := 0) (cn := 1) (as := []) (c_X11_bears (sI (sI q1.2 0 0 26 ((σ.1 0 0 26) + (q1.1 + (0 : Int32)))) 0 0 25 x1) rfl) (by decide) wV_X11_bears wN_X11_bears lk_X11_216 rfl rfl rfl (by decide) rfl (Nat.le_of_ble_eq_true rfl) (by decide +kernel) ?_
          refine XW.bb B [] (by decide +kernel) (pc1 := 97) (ls1 := [some (aR 0 0), some (aI x1), some (aI x2), none]) (st1 := [aI (m_X11_bears (sI (sI q1.2 0 0 26 ((σ.1 0 0 26) + (q1.1 + (0 : Int32)))) 0 0 25 x1)), aI ((σ.1 0 0 26) + (q1.1 + (0 : Int32)))]) (σ1 := (sI (sI q1.2 0 0 26 ((σ.1 0 0 26) + (q1.1 + (0 : Int32)))) 0 0 25 x1)) (P := []) (i := .if_icmp .le 20) (tgt := 117) (q := ((σ.1 0 0 26) + (q1.1 + (0 : Int32))) ≤ (m_X11_bears (sI (sI q1.2 0 0 26 ((σ.1 0 0 26) + (q1.1 + (0 : Int32)))) 0 0 25 x1))) rfl trivial (by decide +kernel) rfl (by decide) (fun h30 => ?_) (fun h30 => ?_)
          · rw [if_pos h30] at hm
            refine XW.bn B [(117, .aload_n 0), (118, .getfield 72), (121, .aload_n 0), (122, .getfield 81), (125, .iconst 1), (126, .isub)] (by decide +kernel) (pc1 := 127) (ls1 := [some (aR 0 0), some (aI x1), some (aI x2), none]) (st1 := [aI ((q1.2.1 0 0 6) - (1 : Int32)), aI (q1.2.1 0 0 23)]) (σ1 := (sI (sI q1.2 0 0 26 ((σ.1 0 0 26) + (q1.1 + (0 : Int32)))) 0 0 25 x1)) (P := []) (i := .if_icmp .ne 61) (tgt := 188) (q := (q1.2.1 0 0 23) = ((q1.2.1 0 0 6) - (1 : Int32))) rfl trivial (by decide +kernel) rfl (by decide) (fun h31 => ?_) (fun h31 => ?_)
            · rw [if_pos h31] at hm
              refine XW.bn B [(130, .iload_n 2)] (by decide +kernel) (pc1 := 131) (ls1 := [some (aR 0 0), some (aI x1), some (aI x2), none]) (st1 := [aI x2]) (σ1 := (sI (sI q1.2 0 0 26 ((σ.1 0 0 26) + (q1.1 + (0 : Int32)))) 0 0 25 x1)) (P := []) (i := .ifCond .ne 57) (tgt := 188) (q := x2 = (0 : Int32)) rfl trivial (by decide +kernel) rfl (by decide) (fun h => absurd h h18) (fun _ => ?_)
              refine XW.bk B [(188, .iconst 1)] (by decide +kernel) (pc1 := 189) (ls1 := [some (aR 0 0), some (aI x1), some (aI x2), none]) (st1 := [aI (1 : Int32)]) (σ1 := (sI (sI q1.2 0 0 26 ((σ.1 0 0 26) + (q1.1 + (0 : Int32)))) 0 0 25 x1)) (P := []) rfl trivial ?_
              obtain ⟨rfl, rfl⟩ := Prod.mk.inj (Option.some.inj hm)
              exact XW.iret B q (by decide +kernel)
            · rw [if_neg h31] at hm
              refine XW.bk B [(188, .iconst 1)] (by decide +kernel) (pc1 := 189) (ls1 := [some (aR 0 0), some (aI x1), some (aI x2), none]) (st1 := [aI (1 : Int32)]) (σ1 := (sI (sI q1.2 0 0 26 ((σ.1 0 0 26) + (q1.1 + (0 : Int32)))) 0 0 25 x1)) (P := []) rfl trivial ?_
              obtain ⟨rfl, rfl⟩ := Prod.mk.inj (Option.some.inj hm)
              exact XW.iret B q (by decide +kernel)
          · rw [if_neg h30] at hm
            refine XW.bk B [(100, .aload_n 0), (101, .dup), (102, .getfield 288), (105, .iconst 1), (106, .iadd), (107, .putfield 288), (110, .aload_n 0), (111, .iconst (-1)), (112, .putfield 72), (115, .iconst 0)] (by decide +kernel) (pc1 := 116) (ls1 := [some (aR 0 0), some (aI x1), some (aI x2), none]) (st1 := [aI (0 : Int32)]) (σ1 := (sI (sI (sI (sI q1.2 0 0 26 ((σ.1 0 0 26) + (q1.1 + (0 : Int32)))) 0 0 25 x1) 0 0 28 ((q1.2.1 0 0 28) + (1 : Int32))) 0 0 23 (-1 : Int32))) (P := []) rfl trivial ?_
            obtain ⟨rfl, rfl⟩ := Prod.mk.inj (Option.some.inj hm)
            exact XW.iret B q (by decide +kernel)
    · rw [if_neg h17] at hm
      refine XW.bb B [(33, .iconst 1), (34, .goto 4), (38, .iadd), (39, .iadd), (40, .putfield 279), (43, .iload_n 2)] (by decide +kernel) (pc1 := 44) (ls1 := [some (aR 0 0), some (aI x1), some (aI x2), none]) (st1 := [aI x2]) (σ1 := (sI q1.2 0 0 26 ((σ.1 0 0 26) + (q1.1 + (1 : Int32))))) (P := []) (i := .ifCond .eq 40) (tgt := 84) (q := x2 = (0 : Int32)) rfl trivial (by decide +kernel) rfl (by decide) (fun h32 => ?_) (fun h32 => ?_)
      · rw [if_pos h32] at hm
        refine XW.bk B [(84, .aload_n 0), (85, .iload_n 1), (86, .putfield 285), (89, .aload_n 0), (90, .getfield 279), (93, .aload_n 0)] (by decide +kernel) (pc1 := 94) (ls1 := [some (aR 0 0), some (aI x1), some (aI x2), none]) (st1 := [aR 0 0, aI ((σ.1 0 0 26) + (q1.1 + (1 : Int32)))]) (σ1 := (sI (sI q1.2 0 0 26 ((σ.1 0 0 26) + (q1.1 + (1 : Int32)))) 0 0 25 x1)) (P := []) rfl trivial ?_
        refine XW.callV B (M := M_X11_bears) (t := 0) (j := 0) (cn := 1) (as := []) (c_X11_bears (sI (sI q1.2 0 0 26 ((σ.1 0 0 26) + (q1.1 + (1 : Int32)))) 0 0 25 x1) rfl) (by decide) wV_X11_bears wN_X11_bears lk_X11_216 rfl rfl rfl (by decide) rfl (Nat.le_of_ble_eq_true rfl) (by decide +kernel) ?_
        refine XW.bb B [] (by decide +kernel) (pc1 := 97) (ls1 := [some (aR 0 0), some (aI x1), some (aI x2), none]) (st1 := [aI (m_X11_bears (sI (sI q1.2 0 0 26 ((σ.1 0 0 26) + (q1.1 + (1 : Int32)))) 0 0 25 x1)), aI ((σ.1 0 0 26) + (q1.1 + (1 : Int32)))]) (σ1 := (sI (sI q1.2 0 0 26 ((σ.1 0 0 26) + (q1.1 + (1 : Int32)))) 0 0 25 x1)) (P := []) (i := .if_icmp .le 20) (tgt := 117) (q := ((σ.1 0 0 26) + (q1.1 + (1 : Int32))) ≤ (m_X11_bears (sI (sI q1.2 0 0 26 ((σ.1 0 0 26) + (q1.1 + (1 : Int32)))) 0 0 25 x1))) rfl trivial (by decide +kernel) rfl (by decide) (fun h33 => ?_) (fun h33 => ?_)
        · rw [if_pos h33] at hm
          refine XW.bn B [(117, .aload_n 0), (118, .getfield 72), (121, .aload_n 0), (122, .getfield 81), (125, .iconst 1), (126, .isub)] (by decide +kernel) (pc1 := 127) (ls1 := [some (aR 0 0), some (aI x1), some (aI x2), none]) (st1 := [aI ((q1.2.1 0 0 6) - (1 : Int32)), aI (q1.2.1 0 0 23)]) (σ1 := (sI (sI q1.2 0 0 26 ((σ.1 0 0 26) + (q1.1 + (1 : Int32)))) 0 0 25 x1)) (P := []) (i := .if_icmp .ne 61) (tgt := 188) (q := (q1.2.1 0 0 23) = ((q1.2.1 0 0 6) - (1 : Int32))) rfl trivial (by decide +kernel) rfl (by decide) (fun h34 => ?_) (fun h34 => ?_)
          · rw [if_pos h34] at hm
            refine XW.bn B [(130, .iload_n 2)] (by decide +kernel) (pc1 := 131) (ls1 := [some (aR 0 0), some (aI x1), some (aI x2), none]) (st1 := [aI x2]) (σ1 := (sI (sI q1.2 0 0 26 ((σ.1 0 0 26) + (q1.1 + (1 : Int32)))) 0 0 25 x1)) (P := []) (i := .ifCond .ne 57) (tgt := 188) (q := x2 = (0 : Int32)) rfl trivial (by decide +kernel) rfl (by decide) (fun _ => ?_) (fun h => absurd h32 h)
            refine XW.bk B [(134, .aload_n 0)] (by decide +kernel) (pc1 := 135) (ls1 := [some (aR 0 0), some (aI x1), some (aI x2), none]) (st1 := [aR 0 0]) (σ1 := (sI (sI q1.2 0 0 26 ((σ.1 0 0 26) + (q1.1 + (1 : Int32)))) 0 0 25 x1)) (P := []) rfl trivial ?_
            refine XW.callV B (M := M_X11_bears) (t := 0) (j := 0) (cn := 1) (as := []) (c_X11_bears (sI (sI q1.2 0 0 26 ((σ.1 0 0 26) + (q1.1 + (1 : Int32)))) 0 0 25 x1) rfl) (by decide) wV_X11_bears wN_X11_bears lk_X11_216 rfl rfl rfl (by decide) rfl (Nat.le_of_ble_eq_true rfl) (by decide +kernel) ?_
            refine XW.bb B [(138, .aload_n 0), (139, .getfield 279), (142, .isub), (143, .istore_n 3), (144, .aload_n 0), (145, .dup), (146, .getfield 291), (149, .iconst 1), (150, .iadd), (151, .putfield 291), (154, .aload_n 0), (155, .aload_n 0), (156, .getfield 69), (159, .ldc 68)] (by decide +kernel) (pc1 := 161) (ls1 := [some (aR 0 0), some (aI x1), some (aI x2), some (aI ((m_X11_bears (sI (sI q1.2 0 0 26 ((σ.1 0 0 26) + (q1.1 + (1 : Int32)))) 0 0 25 x1)) - ((σ.1 0 0 26) + (q1.1 + (1 : Int32)))))]) (st1 := [aI (-2000000000 : Int32), aI (q1.2.1 0 0 31), aR 0 0]) (σ1 := (sI (sI (sI q1.2 0 0 26 ((σ.1 0 0 26) + (q1.1 + (1 : Int32)))) 0 0 25 x1) 0 0 27 ((q1.2.1 0 0 27) + (1 : Int32)))) (P := []) (i := .if_icmp .eq 11) (tgt := 172) (q := (q1.2.1 0 0 31) = (-2000000000 : Int32)) rfl trivial (by decide +kernel) rfl (by decide) (fun h35 => ?_) (fun h35 => ?_)
            · rw [if_pos h35] at hm
              refine XW.bk B [(172, .iload_n 3), (173, .goto 7), (180, .putfield 69), (183, .aload_n 0), (184, .iconst (-1)), (185, .putfield 72), (188, .iconst 1)] (by decide +kernel) (pc1 := 189) (ls1 := [some (aR 0 0), some (aI x1), some (aI x2), some (aI ((m_X11_bears (sI (sI q1.2 0 0 26 ((σ.1 0 0 26) + (q1.1 + (1 : Int32)))) 0 0 25 x1)) - ((σ.1 0 0 26) + (q1.1 + (1 : Int32)))))]) (st1 := [aI (1 : Int32)]) (σ1 := (sI (sI (sI (sI (sI q1.2 0 0 26 ((σ.1 0 0 26) + (q1.1 + (1 : Int32)))) 0 0 25 x1) 0 0 27 ((q1.2.1 0 0 27) + (1 : Int32))) 0 0 31 ((m_X11_bears (sI (sI q1.2 0 0 26 ((σ.1 0 0 26) + (q1.1 + (1 : Int32)))) 0 0 25 x1)) - ((σ.1 0 0 26) + (q1.1 + (1 : Int32))))) 0 0 23 (-1 : Int32))) (P := []) rfl trivial ?_
              obtain ⟨rfl, rfl⟩ := Prod.mk.inj (Option.some.inj hm)
              exact XW.iret B q (by decide +kernel)
            · rw [if_neg h35] at hm
              refine XW.bb B [(164, .iload_n 3), (165, .aload_n 0), (166, .getfield 69)] (by decide +kernel) (pc1 := 169) (ls1 := [some (aR 0 0), some (aI x1), some (aI x2), some (aI ((m_X11_bears (sI (sI q1.2 0 0 26 ((σ.1 0 0 26) + (q1.1 + (1 : Int32)))) 0 0 25 x1)) - ((σ.1 0 0 26) + (q1.1 + (1 : Int32)))))]) (st1 := [aI (q1.2.1 0 0 31), aI ((m_X11_bears (sI (sI q1.2 0 0 26 ((σ.1 0 0 26) + (q1.1 + (1 : Int32)))) 0 0 25 x1)) - ((σ.1 0 0 26) + (q1.1 + (1 : Int32)))), aR 0 0]) (σ1 := (sI (sI (sI q1.2 0 0 26 ((σ.1 0 0 26) + (q1.1 + (1 : Int32)))) 0 0 25 x1) 0 0 27 ((q1.2.1 0 0 27) + (1 : Int32)))) (P := []) (i := .if_icmp .ge 7) (tgt := 176) (q := (q1.2.1 0 0 31) ≤ ((m_X11_bears (sI (sI q1.2 0 0 26 ((σ.1 0 0 26) + (q1.1 + (1 : Int32)))) 0 0 25 x1)) - ((σ.1 0 0 26) + (q1.1 + (1 : Int32))))) rfl trivial (by decide +kernel) rfl (by decide) (fun h36 => ?_) (fun h36 => ?_)
              · rw [if_pos h36] at hm
                refine XW.bk B [(176, .aload_n 0), (177, .getfield 69), (180, .putfield 69), (183, .aload_n 0), (184, .iconst (-1)), (185, .putfield 72), (188, .iconst 1)] (by decide +kernel) (pc1 := 189) (ls1 := [some (aR 0 0), some (aI x1), some (aI x2), some (aI ((m_X11_bears (sI (sI q1.2 0 0 26 ((σ.1 0 0 26) + (q1.1 + (1 : Int32)))) 0 0 25 x1)) - ((σ.1 0 0 26) + (q1.1 + (1 : Int32)))))]) (st1 := [aI (1 : Int32)]) (σ1 := (sI (sI (sI (sI (sI q1.2 0 0 26 ((σ.1 0 0 26) + (q1.1 + (1 : Int32)))) 0 0 25 x1) 0 0 27 ((q1.2.1 0 0 27) + (1 : Int32))) 0 0 31 (q1.2.1 0 0 31)) 0 0 23 (-1 : Int32))) (P := []) rfl trivial ?_
                obtain ⟨rfl, rfl⟩ := Prod.mk.inj (Option.some.inj hm)
                exact XW.iret B q (by decide +kernel)
              · rw [if_neg h36] at hm
                refine XW.bk B [(172, .iload_n 3), (173, .goto 7), (180, .putfield 69), (183, .aload_n 0), (184, .iconst (-1)), (185, .putfield 72), (188, .iconst 1)] (by decide +kernel) (pc1 := 189) (ls1 := [some (aR 0 0), some (aI x1), some (aI x2), some (aI ((m_X11_bears (sI (sI q1.2 0 0 26 ((σ.1 0 0 26) + (q1.1 + (1 : Int32)))) 0 0 25 x1)) - ((σ.1 0 0 26) + (q1.1 + (1 : Int32)))))]) (st1 := [aI (1 : Int32)]) (σ1 := (sI (sI (sI (sI (sI q1.2 0 0 26 ((σ.1 0 0 26) + (q1.1 + (1 : Int32)))) 0 0 25 x1) 0 0 27 ((q1.2.1 0 0 27) + (1 : Int32))) 0 0 31 ((m_X11_bears (sI (sI q1.2 0 0 26 ((σ.1 0 0 26) + (q1.1 + (1 : Int32)))) 0 0 25 x1)) - ((σ.1 0 0 26) + (q1.1 + (1 : Int32))))) 0 0 23 (-1 : Int32))) (P := []) rfl trivial ?_
                obtain ⟨rfl, rfl⟩ := Prod.mk.inj (Option.some.inj hm)
                exact XW.iret B q (by decide +kernel)
          · rw [if_neg h34] at hm
            refine XW.bk B [(188, .iconst 1)] (by decide +kernel) (pc1 := 189) (ls1 := [some (aR 0 0), some (aI x1), some (aI x2), none]) (st1 := [aI (1 : Int32)]) (σ1 := (sI (sI q1.2 0 0 26 ((σ.1 0 0 26) + (q1.1 + (1 : Int32)))) 0 0 25 x1)) (P := []) rfl trivial ?_
            obtain ⟨rfl, rfl⟩ := Prod.mk.inj (Option.some.inj hm)
            exact XW.iret B q (by decide +kernel)
        · rw [if_neg h33] at hm
          refine XW.bk B [(100, .aload_n 0), (101, .dup), (102, .getfield 288), (105, .iconst 1), (106, .iadd), (107, .putfield 288), (110, .aload_n 0), (111, .iconst (-1)), (112, .putfield 72), (115, .iconst 0)] (by decide +kernel) (pc1 := 116) (ls1 := [some (aR 0 0), some (aI x1), some (aI x2), none]) (st1 := [aI (0 : Int32)]) (σ1 := (sI (sI (sI (sI q1.2 0 0 26 ((σ.1 0 0 26) + (q1.1 + (1 : Int32)))) 0 0 25 x1) 0 0 28 ((q1.2.1 0 0 28) + (1 : Int32))) 0 0 23 (-1 : Int32))) (P := []) rfl trivial ?_
          obtain ⟨rfl, rfl⟩ := Prod.mk.inj (Option.some.inj hm)
          exact XW.iret B q (by decide +kernel)
      · rw [if_neg h32] at hm
        refine XW.bk B [(47, .aload_n 0), (48, .aload_n 0), (49, .getfield 72), (52, .aload_n 0), (53, .getfield 282)] (by decide +kernel) (pc1 := 56) (ls1 := [some (aR 0 0), some (aI x1), some (aI x2), none]) (st1 := [aI (q1.2.1 0 0 24), aI (q1.2.1 0 0 23), aR 0 0]) (σ1 := (sI q1.2 0 0 26 ((σ.1 0 0 26) + (q1.1 + (1 : Int32))))) (P := []) rfl trivial ?_
        obtain ⟨q37, hq37, hm⟩ := obind_eq hm
        refine XW.callV B (M := M_X11_windAt) (t := 0) (j := 0) (cn := 1) (as := [aI (q1.2.1 0 0 23), aI (q1.2.1 0 0 24)]) (c_X11_windAt (q1.2.1 0 0 23) (q1.2.1 0 0 24) (sI q1.2 0 0 26 ((σ.1 0 0 26) + (q1.1 + (1 : Int32)))) hq37) (by decide) wV_X11_windAt wN_X11_windAt lk_X11_142 rfl rfl rfl (by decide) rfl (Nat.le_of_ble_eq_true rfl) (by decide +kernel) ?_
        refine XW.bn B [] (by decide +kernel) (pc1 := 59) (ls1 := [some (aR 0 0), some (aI x1), some (aI x2), none]) (st1 := [aI q37]) (σ1 := (sI q1.2 0 0 26 ((σ.1 0 0 26) + (q1.1 + (1 : Int32))))) (P := []) (i := .ifCond .ne 25) (tgt := 84) (q := q37 = (0 : Int32)) rfl trivial (by decide +kernel) rfl (by decide) (fun h38 => ?_) (fun h38 => ?_)
        · rw [if_pos h38] at hm
          refine XW.bb B [(62, .aload_n 0), (63, .aload_n 0), (64, .getfield 279), (67, .iconst 3)] (by decide +kernel) (pc1 := 68) (ls1 := [some (aR 0 0), some (aI x1), some (aI x2), none]) (st1 := [aI (3 : Int32), aI ((σ.1 0 0 26) + (q1.1 + (1 : Int32))), aR 0 0]) (σ1 := (sI q1.2 0 0 26 ((σ.1 0 0 26) + (q1.1 + (1 : Int32))))) (P := []) (i := .if_icmp .le 12) (tgt := 80) (q := ((σ.1 0 0 26) + (q1.1 + (1 : Int32))) ≤ (3 : Int32)) rfl trivial (by decide +kernel) rfl (by decide) (fun h39 => ?_) (fun h39 => ?_)
          · rw [if_pos h39] at hm
            refine XW.bk B [(80, .iconst 0), (81, .putfield 279), (84, .aload_n 0), (85, .iload_n 1), (86, .putfield 285), (89, .aload_n 0), (90, .getfield 279), (93, .aload_n 0)] (by decide +kernel) (pc1 := 94) (ls1 := [some (aR 0 0), some (aI x1), some (aI x2), none]) (st1 := [aR 0 0, aI (0 : Int32)]) (σ1 := (sI (sI (sI q1.2 0 0 26 ((σ.1 0 0 26) + (q1.1 + (1 : Int32)))) 0 0 26 (0 : Int32)) 0 0 25 x1)) (P := []) rfl trivial ?_
            refine XW.callV B (M := M_X11_bears) (t := 0) (j := 0) (cn := 1) (as := []) (c_X11_bears (sI (sI (sI q1.2 0 0 26 ((σ.1 0 0 26) + (q1.1 + (1 : Int32)))) 0 0 26 (0 : Int32)) 0 0 25 x1) rfl) (by decide) wV_X11_bears wN_X11_bears lk_X11_216 rfl rfl rfl (by decide) rfl (Nat.le_of_ble_eq_true rfl) (by decide +kernel) ?_
            refine XW.bb B [] (by decide +kernel) (pc1 := 97) (ls1 := [some (aR 0 0), some (aI x1), some (aI x2), none]) (st1 := [aI (m_X11_bears (sI (sI (sI q1.2 0 0 26 ((σ.1 0 0 26) + (q1.1 + (1 : Int32)))) 0 0 26 (0 : Int32)) 0 0 25 x1)), aI (0 : Int32)]) (σ1 := (sI (sI (sI q1.2 0 0 26 ((σ.1 0 0 26) + (q1.1 + (1 : Int32)))) 0 0 26 (0 : Int32)) 0 0 25 x1)) (P := []) (i := .if_icmp .le 20) (tgt := 117) (q := (0 : Int32) ≤ (m_X11_bears (sI (sI (sI q1.2 0 0 26 ((σ.1 0 0 26) + (q1.1 + (1 : Int32)))) 0 0 26 (0 : Int32)) 0 0 25 x1))) rfl trivial (by decide +kernel) rfl (by decide) (fun h40 => ?_) (fun h40 => ?_)
            · rw [if_pos h40] at hm
              refine XW.bn B [(117, .aload_n 0), (118, .getfield 72), (121, .aload_n 0), (122, .getfield 81), (125, .iconst 1), (126, .isub)] (by decide +kernel) (pc1 := 127) (ls1 := [some (aR 0 0), some (aI x1), some (aI x2), none]) (st1 := [aI ((q1.2.1 0 0 6) - (1 : Int32)), aI (q1.2.1 0 0 23)]) (σ1 := (sI (sI (sI q1.2 0 0 26 ((σ.1 0 0 26) + (q1.1 + (1 : Int32)))) 0 0 26 (0 : Int32)) 0 0 25 x1)) (P := []) (i := .if_icmp .ne 61) (tgt := 188) (q := (q1.2.1 0 0 23) = ((q1.2.1 0 0 6) - (1 : Int32))) rfl trivial (by decide +kernel) rfl (by decide) (fun h41 => ?_) (fun h41 => ?_)
              · rw [if_pos h41] at hm
                refine XW.bn B [(130, .iload_n 2)] (by decide +kernel) (pc1 := 131) (ls1 := [some (aR 0 0), some (aI x1), some (aI x2), none]) (st1 := [aI x2]) (σ1 := (sI (sI (sI q1.2 0 0 26 ((σ.1 0 0 26) + (q1.1 + (1 : Int32)))) 0 0 26 (0 : Int32)) 0 0 25 x1)) (P := []) (i := .ifCond .ne 57) (tgt := 188) (q := x2 = (0 : Int32)) rfl trivial (by decide +kernel) rfl (by decide) (fun h => absurd h h32) (fun _ => ?_)
                refine XW.bk B [(188, .iconst 1)] (by decide +kernel) (pc1 := 189) (ls1 := [some (aR 0 0), some (aI x1), some (aI x2), none]) (st1 := [aI (1 : Int32)]) (σ1 := (sI (sI (sI q1.2 0 0 26 ((σ.1 0 0 26) + (q1.1 + (1 : Int32)))) 0 0 26 (0 : Int32)) 0 0 25 x1)) (P := []) rfl trivial ?_
                obtain ⟨rfl, rfl⟩ := Prod.mk.inj (Option.some.inj hm)
                exact XW.iret B q (by decide +kernel)
              · rw [if_neg h41] at hm
                refine XW.bk B [(188, .iconst 1)] (by decide +kernel) (pc1 := 189) (ls1 := [some (aR 0 0), some (aI x1), some (aI x2), none]) (st1 := [aI (1 : Int32)]) (σ1 := (sI (sI (sI q1.2 0 0 26 ((σ.1 0 0 26) + (q1.1 + (1 : Int32)))) 0 0 26 (0 : Int32)) 0 0 25 x1)) (P := []) rfl trivial ?_
                obtain ⟨rfl, rfl⟩ := Prod.mk.inj (Option.some.inj hm)
                exact XW.iret B q (by decide +kernel)
            · rw [if_neg h40] at hm
              refine XW.bk B [(100, .aload_n 0), (101, .dup), (102, .getfield 288), (105, .iconst 1), (106, .iadd), (107, .putfield 288), (110, .aload_n 0), (111, .iconst (-1)), (112, .putfield 72), (115, .iconst 0)] (by decide +kernel) (pc1 := 116) (ls1 := [some (aR 0 0), some (aI x1), some (aI x2), none]) (st1 := [aI (0 : Int32)]) (σ1 := (sI (sI (sI (sI (sI q1.2 0 0 26 ((σ.1 0 0 26) + (q1.1 + (1 : Int32)))) 0 0 26 (0 : Int32)) 0 0 25 x1) 0 0 28 ((q1.2.1 0 0 28) + (1 : Int32))) 0 0 23 (-1 : Int32))) (P := []) rfl trivial ?_
              obtain ⟨rfl, rfl⟩ := Prod.mk.inj (Option.some.inj hm)
              exact XW.iret B q (by decide +kernel)
          · rw [if_neg h39] at hm
            refine XW.bk B [(71, .aload_n 0), (72, .getfield 279), (75, .iconst 3), (76, .isub), (77, .goto 4), (81, .putfield 279), (84, .aload_n 0), (85, .iload_n 1), (86, .putfield 285), (89, .aload_n 0), (90, .getfield 279), (93, .aload_n 0)] (by decide +kernel) (pc1 := 94) (ls1 := [some (aR 0 0), some (aI x1), some (aI x2), none]) (st1 := [aR 0 0, aI (((σ.1 0 0 26) + (q1.1 + (1 : Int32))) - (3 : Int32))]) (σ1 := (sI (sI (sI q1.2 0 0 26 ((σ.1 0 0 26) + (q1.1 + (1 : Int32)))) 0 0 26 (((σ.1 0 0 26) + (q1.1 + (1 : Int32))) - (3 : Int32))) 0 0 25 x1)) (P := []) rfl trivial ?_
            refine XW.callV B (M := M_X11_bears) (t := 0) (j := 0) (cn := 1) (as := []) (c_X11_bears (sI (sI (sI q1.2 0 0 26 ((σ.1 0 0 26) + (q1.1 + (1 : Int32)))) 0 0 26 (((σ.1 0 0 26) + (q1.1 + (1 : Int32))) - (3 : Int32))) 0 0 25 x1) rfl) (by decide) wV_X11_bears wN_X11_bears lk_X11_216 rfl rfl rfl (by decide) rfl (Nat.le_of_ble_eq_true rfl) (by decide +kernel) ?_
            refine XW.bb B [] (by decide +kernel) (pc1 := 97) (ls1 := [some (aR 0 0), some (aI x1), some (aI x2), none]) (st1 := [aI (m_X11_bears (sI (sI (sI q1.2 0 0 26 ((σ.1 0 0 26) + (q1.1 + (1 : Int32)))) 0 0 26 (((σ.1 0 0 26) + (q1.1 + (1 : Int32))) - (3 : Int32))) 0 0 25 x1)), aI (((σ.1 0 0 26) + (q1.1 + (1 : Int32))) - (3 : Int32))]) (σ1 := (sI (sI (sI q1.2 0 0 26 ((σ.1 0 0 26) + (q1.1 + (1 : Int32)))) 0 0 26 (((σ.1 0 0 26) + (q1.1 + (1 : Int32))) - (3 : Int32))) 0 0 25 x1)) (P := []) (i := .if_icmp .le 20) (tgt := 117) (q := (((σ.1 0 0 26) + (q1.1 + (1 : Int32))) - (3 : Int32)) ≤ (m_X11_bears (sI (sI (sI q1.2 0 0 26 ((σ.1 0 0 26) + (q1.1 + (1 : Int32)))) 0 0 26 (((σ.1 0 0 26) + (q1.1 + (1 : Int32))) - (3 : Int32))) 0 0 25 x1))) rfl trivial (by decide +kernel) rfl (by decide) (fun h42 => ?_) (fun h42 => ?_)
            · rw [if_pos h42] at hm
              refine XW.bn B [(117, .aload_n 0), (118, .getfield 72), (121, .aload_n 0), (122, .getfield 81), (125, .iconst 1), (126, .isub)] (by decide +kernel) (pc1 := 127) (ls1 := [some (aR 0 0), some (aI x1), some (aI x2), none]) (st1 := [aI ((q1.2.1 0 0 6) - (1 : Int32)), aI (q1.2.1 0 0 23)]) (σ1 := (sI (sI (sI q1.2 0 0 26 ((σ.1 0 0 26) + (q1.1 + (1 : Int32)))) 0 0 26 (((σ.1 0 0 26) + (q1.1 + (1 : Int32))) - (3 : Int32))) 0 0 25 x1)) (P := []) (i := .if_icmp .ne 61) (tgt := 188) (q := (q1.2.1 0 0 23) = ((q1.2.1 0 0 6) - (1 : Int32))) rfl trivial (by decide +kernel) rfl (by decide) (fun h43 => ?_) (fun h43 => ?_)
              · rw [if_pos h43] at hm
                refine XW.bn B [(130, .iload_n 2)] (by decide +kernel) (pc1 := 131) (ls1 := [some (aR 0 0), some (aI x1), some (aI x2), none]) (st1 := [aI x2]) (σ1 := (sI (sI (sI q1.2 0 0 26 ((σ.1 0 0 26) + (q1.1 + (1 : Int32)))) 0 0 26 (((σ.1 0 0 26) + (q1.1 + (1 : Int32))) - (3 : Int32))) 0 0 25 x1)) (P := []) (i := .ifCond .ne 57) (tgt := 188) (q := x2 = (0 : Int32)) rfl trivial (by decide +kernel) rfl (by decide) (fun h => absurd h h32) (fun _ => ?_)
                refine XW.bk B [(188, .iconst 1)] (by decide +kernel) (pc1 := 189) (ls1 := [some (aR 0 0), some (aI x1), some (aI x2), none]) (st1 := [aI (1 : Int32)]) (σ1 := (sI (sI (sI q1.2 0 0 26 ((σ.1 0 0 26) + (q1.1 + (1 : Int32)))) 0 0 26 (((σ.1 0 0 26) + (q1.1 + (1 : Int32))) - (3 : Int32))) 0 0 25 x1)) (P := []) rfl trivial ?_
                obtain ⟨rfl, rfl⟩ := Prod.mk.inj (Option.some.inj hm)
                exact XW.iret B q (by decide +kernel)
              · rw [if_neg h43] at hm
                refine XW.bk B [(188, .iconst 1)] (by decide +kernel) (pc1 := 189) (ls1 := [some (aR 0 0), some (aI x1), some (aI x2), none]) (st1 := [aI (1 : Int32)]) (σ1 := (sI (sI (sI q1.2 0 0 26 ((σ.1 0 0 26) + (q1.1 + (1 : Int32)))) 0 0 26 (((σ.1 0 0 26) + (q1.1 + (1 : Int32))) - (3 : Int32))) 0 0 25 x1)) (P := []) rfl trivial ?_
                obtain ⟨rfl, rfl⟩ := Prod.mk.inj (Option.some.inj hm)
                exact XW.iret B q (by decide +kernel)
            · rw [if_neg h42] at hm
              refine XW.bk B [(100, .aload_n 0), (101, .dup), (102, .getfield 288), (105, .iconst 1), (106, .iadd), (107, .putfield 288), (110, .aload_n 0), (111, .iconst (-1)), (112, .putfield 72), (115, .iconst 0)] (by decide +kernel) (pc1 := 116) (ls1 := [some (aR 0 0), some (aI x1), some (aI x2), none]) (st1 := [aI (0 : Int32)]) (σ1 := (sI (sI (sI (sI (sI q1.2 0 0 26 ((σ.1 0 0 26) + (q1.1 + (1 : Int32)))) 0 0 26 (((σ.1 0 0 26) + (q1.1 + (1 : Int32))) - (3 : Int32))) 0 0 25 x1) 0 0 28 ((q1.2.1 0 0 28) + (1 : Int32))) 0 0 23 (-1 : Int32))) (P := []) rfl trivial ?_
              obtain ⟨rfl, rfl⟩ := Prod.mk.inj (Option.some.inj hm)
              exact XW.iret B q (by decide +kernel)
        · rw [if_neg h38] at hm
          refine XW.bk B [(84, .aload_n 0), (85, .iload_n 1), (86, .putfield 285), (89, .aload_n 0), (90, .getfield 279), (93, .aload_n 0)] (by decide +kernel) (pc1 := 94) (ls1 := [some (aR 0 0), some (aI x1), some (aI x2), none]) (st1 := [aR 0 0, aI ((σ.1 0 0 26) + (q1.1 + (1 : Int32)))]) (σ1 := (sI (sI q1.2 0 0 26 ((σ.1 0 0 26) + (q1.1 + (1 : Int32)))) 0 0 25 x1)) (P := []) rfl trivial ?_
          refine XW.callV B (M := M_X11_bears) (t := 0) (j := 0) (cn := 1) (as := []) (c_X11_bears (sI (sI q1.2 0 0 26 ((σ.1 0 0 26) + (q1.1 + (1 : Int32)))) 0 0 25 x1) rfl) (by decide) wV_X11_bears wN_X11_bears lk_X11_216 rfl rfl rfl (by decide) rfl (Nat.le_of_ble_eq_true rfl) (by decide +kernel) ?_
          refine XW.bb B [] (by decide +kernel) (pc1 := 97) (ls1 := [some (aR 0 0), some (aI x1), some (aI x2), none]) (st1 := [aI (m_X11_bears (sI (sI q1.2 0 0 26 ((σ.1 0 0 26) + (q1.1 + (1 : Int32)))) 0 0 25 x1)), aI ((σ.1 0 0 26) + (q1.1 + (1 : Int32)))]) (σ1 := (sI (sI q1.2 0 0 26 ((σ.1 0 0 26) + (q1.1 + (1 : Int32)))) 0 0 25 x1)) (P := []) (i := .if_icmp .le 20) (tgt := 117) (q := ((σ.1 0 0 26) + (q1.1 + (1 : Int32))) ≤ (m_X11_bears (sI (sI q1.2 0 0 26 ((σ.1 0 0 26) + (q1.1 + (1 : Int32)))) 0 0 25 x1))) rfl trivial (by decide +kernel) rfl (by decide) (fun h44 => ?_) (fun h44 => ?_)
          · rw [if_pos h44] at hm
            refine XW.bn B [(117, .aload_n 0), (118, .getfield 72), (121, .aload_n 0), (122, .getfield 81), (125, .iconst 1), (126, .isub)] (by decide +kernel) (pc1 := 127) (ls1 := [some (aR 0 0), some (aI x1), some (aI x2), none]) (st1 := [aI ((q1.2.1 0 0 6) - (1 : Int32)), aI (q1.2.1 0 0 23)]) (σ1 := (sI (sI q1.2 0 0 26 ((σ.1 0 0 26) + (q1.1 + (1 : Int32)))) 0 0 25 x1)) (P := []) (i := .if_icmp .ne 61) (tgt := 188) (q := (q1.2.1 0 0 23) = ((q1.2.1 0 0 6) - (1 : Int32))) rfl trivial (by decide +kernel) rfl (by decide) (fun h45 => ?_) (fun h45 => ?_)
            · rw [if_pos h45] at hm
              refine XW.bn B [(130, .iload_n 2)] (by decide +kernel) (pc1 := 131) (ls1 := [some (aR 0 0), some (aI x1), some (aI x2), none]) (st1 := [aI x2]) (σ1 := (sI (sI q1.2 0 0 26 ((σ.1 0 0 26) + (q1.1 + (1 : Int32)))) 0 0 25 x1)) (P := []) (i := .ifCond .ne 57) (tgt := 188) (q := x2 = (0 : Int32)) rfl trivial (by decide +kernel) rfl (by decide) (fun h => absurd h h32) (fun _ => ?_)
              refine XW.bk B [(188, .iconst 1)] (by decide +kernel) (pc1 := 189) (ls1 := [some (aR 0 0), some (aI x1), some (aI x2), none]) (st1 := [aI (1 : Int32)]) (σ1 := (sI (sI q1.2 0 0 26 ((σ.1 0 0 26) + (q1.1 + (1 : Int32)))) 0 0 25 x1)) (P := []) rfl trivial ?_
              obtain ⟨rfl, rfl⟩ := Prod.mk.inj (Option.some.inj hm)
              exact XW.iret B q (by decide +kernel)
            · rw [if_neg h45] at hm
              refine XW.bk B [(188, .iconst 1)] (by decide +kernel) (pc1 := 189) (ls1 := [some (aR 0 0), some (aI x1), some (aI x2), none]) (st1 := [aI (1 : Int32)]) (σ1 := (sI (sI q1.2 0 0 26 ((σ.1 0 0 26) + (q1.1 + (1 : Int32)))) 0 0 25 x1)) (P := []) rfl trivial ?_
              obtain ⟨rfl, rfl⟩ := Prod.mk.inj (Option.some.inj hm)
              exact XW.iret B q (by decide +kernel)
          · rw [if_neg h44] at hm
            refine XW.bk B [(100, .aload_n 0), (101, .dup), (102, .getfield 288), (105, .iconst 1), (106, .iadd), (107, .putfield 288), (110, .aload_n 0), (111, .iconst (-1)), (112, .putfield 72), (115, .iconst 0)] (by decide +kernel) (pc1 := 116) (ls1 := [some (aR 0 0), some (aI x1), some (aI x2), none]) (st1 := [aI (0 : Int32)]) (σ1 := (sI (sI (sI (sI q1.2 0 0 26 ((σ.1 0 0 26) + (q1.1 + (1 : Int32)))) 0 0 25 x1) 0 0 28 ((q1.2.1 0 0 28) + (1 : Int32))) 0 0 23 (-1 : Int32))) (P := []) rfl trivial ?_
            obtain ⟨rfl, rfl⟩ := Prod.mk.inj (Option.some.inj hm)
            exact XW.iret B q (by decide +kernel)

def m_X11_out (x1 : Int32) (x2 : Int32) (σ : SS) : Option (Int32 × SS) :=
  if (m_X11_isMinute x1) = (0 : Int32) then
    some ((-1 : Int32), σ)
  else
  if (m_X11_isHeld x2.toInt64) = (0 : Int32) then
    some ((-1 : Int32), σ)
  else
  if (0 : Int32) ≤ (σ.1 0 0 23) then
    some ((-5 : Int32), σ)
  else
  if (σ.1 0 0 6) = (0 : Int32) then
    some ((-5 : Int32), σ)
  else
  if x2 ≤ (σ.2.1 1 0 (72 : Int32).toNatClampNeg) then
    Option.bind (m_X11_minuteIs x2 (0 : Int32) (sI (sI (sI (sI σ 0 0 23 (0 : Int32)) 0 0 24 x1) 0 0 25 (-1 : Int32)) 0 0 26 (0 : Int32))) (fun q6 =>
    some (q6.1, q6.2))
  else
  some ((-2 : Int32), σ)
set_option maxRecDepth 100000 in
set_option maxHeartbeats 4000000 in
theorem c_X11_out (x1 : Int32) (x2 : Int32) (σ : SS) {r : Int32} {σ' : SS} (hm : m_X11_out x1 x2 σ = some (r, σ')) : XM LM 66 M_X11_out [aR 0 0, aI x1, aI x2] σ (some (aI r)) σ' := by
  refine XM.of (K := K11) (by decide) (by decide +kernel) K11_ok (Nat.le_of_ble_eq_true rfl) (fun Γ B q => ?_)
  unfold m_X11_out at hm
  refine XW.bk B [(0, .iload_n 1)] (by decide +kernel) (pc1 := 1) (ls1 := [some (aR 0 0), some (aI x1), some (aI x2)]) (st1 := [aI x1]) (σ1 := σ) (P := []) rfl trivial ?_
  refine XW.callS B (M := M_X11_isMinute) (as := [aI x1]) (c_X11_isMinute x1 σ rfl) (by decide) wS_X11_isMinute wN_X11_isMinute lk_X11_219 rfl (Nat.le_of_ble_eq_true rfl) (by decide +kernel) ?_
  refine XW.bb B [] (by decide +kernel) (pc1 := 4) (ls1 := [some (aR 0 0), some (aI x1), some (aI x2)]) (st1 := [aI (m_X11_isMinute x1)]) (σ1 := σ) (P := []) (i := .ifCond .eq 11) (tgt := 15) (q := (m_X11_isMinute x1) = (0 : Int32)) rfl trivial (by decide +kernel) rfl (by decide) (fun h1 => ?_) (fun h1 => ?_)
  · rw [if_pos h1] at hm
    refine XW.bk B [(15, .iconst (-1))] (by decide +kernel) (pc1 := 16) (ls1 := [some (aR 0 0), some (aI x1), some (aI x2)]) (st1 := [aI (-1 : Int32)]) (σ1 := σ) (P := []) rfl trivial ?_
    obtain ⟨rfl, rfl⟩ := Prod.mk.inj (Option.some.inj hm)
    exact XW.iret B q (by decide +kernel)
  · rw [if_neg h1] at hm
    refine XW.bk B [(7, .iload_n 2), (8, .i2l)] (by decide +kernel) (pc1 := 9) (ls1 := [some (aR 0 0), some (aI x1), some (aI x2)]) (st1 := [aJ x2.toInt64]) (σ1 := σ) (P := []) rfl trivial ?_
    refine XW.callS B (M := M_X11_isHeld) (as := [aJ x2.toInt64]) (c_X11_isHeld x2.toInt64 σ rfl) (by decide) wS_X11_isHeld wN_X11_isHeld lk_X11_120 rfl (Nat.le_of_ble_eq_true rfl) (by decide +kernel) ?_
    refine XW.bn B [] (by decide +kernel) (pc1 := 12) (ls1 := [some (aR 0 0), some (aI x1), some (aI x2)]) (st1 := [aI (m_X11_isHeld x2.toInt64)]) (σ1 := σ) (P := []) (i := .ifCond .ne 5) (tgt := 17) (q := (m_X11_isHeld x2.toInt64) = (0 : Int32)) rfl trivial (by decide +kernel) rfl (by decide) (fun h2 => ?_) (fun h2 => ?_)
    · rw [if_pos h2] at hm
      refine XW.bk B [(15, .iconst (-1))] (by decide +kernel) (pc1 := 16) (ls1 := [some (aR 0 0), some (aI x1), some (aI x2)]) (st1 := [aI (-1 : Int32)]) (σ1 := σ) (P := []) rfl trivial ?_
      obtain ⟨rfl, rfl⟩ := Prod.mk.inj (Option.some.inj hm)
      exact XW.iret B q (by decide +kernel)
    · rw [if_neg h2] at hm
      refine XW.bb B [(17, .aload_n 0), (18, .getfield 72)] (by decide +kernel) (pc1 := 21) (ls1 := [some (aR 0 0), some (aI x1), some (aI x2)]) (st1 := [aI (σ.1 0 0 23)]) (σ1 := σ) (P := []) (i := .ifCond .ge 10) (tgt := 31) (q := (0 : Int32) ≤ (σ.1 0 0 23)) rfl trivial (by decide +kernel) rfl (by decide) (fun h3 => ?_) (fun h3 => ?_)
      · rw [if_pos h3] at hm
        refine XW.bk B [(31, .bipush (-5))] (by decide +kernel) (pc1 := 33) (ls1 := [some (aR 0 0), some (aI x1), some (aI x2)]) (st1 := [aI (-5 : Int32)]) (σ1 := σ) (P := []) rfl trivial ?_
        obtain ⟨rfl, rfl⟩ := Prod.mk.inj (Option.some.inj hm)
        exact XW.iret B q (by decide +kernel)
      · rw [if_neg h3] at hm
        refine XW.bn B [(24, .aload_n 0), (25, .getfield 81)] (by decide +kernel) (pc1 := 28) (ls1 := [some (aR 0 0), some (aI x1), some (aI x2)]) (st1 := [aI (σ.1 0 0 6)]) (σ1 := σ) (P := []) (i := .ifCond .ne 6) (tgt := 34) (q := (σ.1 0 0 6) = (0 : Int32)) rfl trivial (by decide +kernel) rfl (by decide) (fun h4 => ?_) (fun h4 => ?_)
        · rw [if_pos h4] at hm
          refine XW.bk B [(31, .bipush (-5))] (by decide +kernel) (pc1 := 33) (ls1 := [some (aR 0 0), some (aI x1), some (aI x2)]) (st1 := [aI (-5 : Int32)]) (σ1 := σ) (P := []) rfl trivial ?_
          obtain ⟨rfl, rfl⟩ := Prod.mk.inj (Option.some.inj hm)
          exact XW.iret B q (by decide +kernel)
        · rw [if_neg h4] at hm
          refine XW.bb B [(34, .iload_n 2), (35, .aload_n 0), (36, .getfield 11), (39, .bipush 72), (41, .iaload)] (by decide +kernel) (pc1 := 42) (ls1 := [some (aR 0 0), some (aI x1), some (aI x2)]) (st1 := [aI (σ.2.1 1 0 (72 : Int32).toNatClampNeg), aI x2]) (σ1 := σ) (P := [vp_in (72 : Int32) 88]) (i := .if_icmp .le 6) (tgt := 48) (q := x2 ≤ (σ.2.1 1 0 (72 : Int32).toNatClampNeg)) rfl ⟨(vin_lit (by decide +kernel)), trivial⟩ (by decide +kernel) rfl (by decide) (fun h5 => ?_) (fun h5 => ?_)
          · rw [if_pos h5] at hm
            refine XW.bk B [(48, .aload_n 0), (49, .iconst 0), (50, .putfield 72), (53, .aload_n 0), (54, .iload_n 1), (55, .putfield 282), (58, .aload_n 0), (59, .iconst (-1)), (60, .putfield 285), (63, .aload_n 0), (64, .iconst 0), (65, .putfield 279), (68, .aload_n 0), (69, .iload_n 2), (70, .iconst 0)] (by decide +kernel) (pc1 := 71) (ls1 := [some (aR 0 0), some (aI x1), some (aI x2)]) (st1 := [aI (0 : Int32), aI x2, aR 0 0]) (σ1 := (sI (sI (sI (sI σ 0 0 23 (0 : Int32)) 0 0 24 x1) 0 0 25 (-1 : Int32)) 0 0 26 (0 : Int32))) (P := []) rfl trivial ?_
            obtain ⟨q6, hq6, hm⟩ := obind_eq hm
            refine XW.callV B (M := M_X11_minuteIs) (t := 0) (j := 0) (cn := 1) (as := [aI x2, aI (0 : Int32)]) (c_X11_minuteIs x2 (0 : Int32) (sI (sI (sI (sI σ 0 0 23 (0 : Int32)) 0 0 24 x1) 0 0 25 (-1 : Int32)) 0 0 26 (0 : Int32)) hq6) (by decide) wV_X11_minuteIs wN_X11_minuteIs lk_X11_294 rfl rfl rfl (by decide) rfl (Nat.le_of_ble_eq_true rfl) (by decide +kernel) ?_
            obtain ⟨rfl, rfl⟩ := Prod.mk.inj (Option.some.inj hm)
            exact XW.iret B q (by decide +kernel)
          · rw [if_neg h5] at hm
            refine XW.bk B [(45, .bipush (-2))] (by decide +kernel) (pc1 := 47) (ls1 := [some (aR 0 0), some (aI x1), some (aI x2)]) (st1 := [aI (-2 : Int32)]) (σ1 := σ) (P := []) rfl trivial ?_
            obtain ⟨rfl, rfl⟩ := Prod.mk.inj (Option.some.inj hm)
            exact XW.iret B q (by decide +kernel)

def m_X11_pace (x1 : Int32) (σ : SS) : Option (Int32 × SS) :=
  if (m_X11_isHeld x1.toInt64) = (0 : Int32) then
    some ((-1 : Int32), σ)
  else
  if (0 : Int32) ≤ (σ.1 0 0 23) then
    if (((72 : Int32) + (σ.1 0 0 23)) + (1 : Int32)) < 0 ∨ 88 ≤ (((72 : Int32) + (σ.1 0 0 23)) + (1 : Int32)).toNatClampNeg then none else
    if x1 ≤ (σ.2.1 1 0 (((72 : Int32) + (σ.1 0 0 23)) + (1 : Int32)).toNatClampNeg) then
      Option.bind (m_X11_minuteIs x1 (0 : Int32) (sI (sI (sI σ 0 0 23 ((σ.1 0 0 23) + (1 : Int32))) 0 0 24 ((σ.1 0 0 24) + (1 : Int32))) 0 0 29 ((σ.1 0 0 29) + (1 : Int32)))) (fun q5 =>
      some (q5.1, q5.2))
    else
    some ((-2 : Int32), σ)
  else
  some ((-5 : Int32), σ)
set_option maxRecDepth 100000 in
set_option maxHeartbeats 4000000 in
theorem c_X11_pace (x1 : Int32) (σ : SS) {r : Int32} {σ' : SS} (hm : m_X11_pace x1 σ = some (r, σ')) : XM LM 66 M_X11_pace [aR 0 0, aI x1] σ (some (aI r)) σ' := by
  refine XM.of (K := K11) (by decide) (by decide +kernel) K11_ok (Nat.le_of_ble_eq_true rfl) (fun Γ B q => ?_)
  unfold m_X11_pace at hm
  refine XW.bk B [(0, .iload_n 1), (1, .i2l)] (by decide +kernel) (pc1 := 2) (ls1 := [some (aR 0 0), some (aI x1)]) (st1 := [aJ x1.toInt64]) (σ1 := σ) (P := []) rfl trivial ?_
  refine XW.callS B (M := M_X11_isHeld) (as := [aJ x1.toInt64]) (c_X11_isHeld x1.toInt64 σ rfl) (by decide) wS_X11_isHeld wN_X11_isHeld lk_X11_120 rfl (Nat.le_of_ble_eq_true rfl) (by decide +kernel) ?_
  refine XW.bn B [] (by decide +kernel) (pc1 := 5) (ls1 := [some (aR 0 0), some (aI x1)]) (st1 := [aI (m_X11_isHeld x1.toInt64)]) (σ1 := σ) (P := []) (i := .ifCond .ne 5) (tgt := 10) (q := (m_X11_isHeld x1.toInt64) = (0 : Int32)) rfl trivial (by decide +kernel) rfl (by decide) (fun h1 => ?_) (fun h1 => ?_)
  · rw [if_pos h1] at hm
    refine XW.bk B [(8, .iconst (-1))] (by decide +kernel) (pc1 := 9) (ls1 := [some (aR 0 0), some (aI x1)]) (st1 := [aI (-1 : Int32)]) (σ1 := σ) (P := []) rfl trivial ?_
    obtain ⟨rfl, rfl⟩ := Prod.mk.inj (Option.some.inj hm)
    exact XW.iret B q (by decide +kernel)
  · rw [if_neg h1] at hm
    refine XW.bb B [(10, .aload_n 0), (11, .getfield 72)] (by decide +kernel) (pc1 := 14) (ls1 := [some (aR 0 0), some (aI x1)]) (st1 := [aI (σ.1 0 0 23)]) (σ1 := σ) (P := []) (i := .ifCond .ge 6) (tgt := 20) (q := (0 : Int32) ≤ (σ.1 0 0 23)) rfl trivial (by decide +kernel) rfl (by decide) (fun h2 => ?_) (fun h2 => ?_)
    · rw [if_pos h2] at hm
      refine XW.bk B [(20, .iload_n 1), (21, .aload_n 0), (22, .getfield 11), (25, .bipush 72), (27, .aload_n 0), (28, .getfield 72), (31, .iadd), (32, .iconst 1), (33, .iadd)] (by decide +kernel) (pc1 := 34) (ls1 := [some (aR 0 0), some (aI x1)]) (st1 := [aI (((72 : Int32) + (σ.1 0 0 23)) + (1 : Int32)), aR 1 0, aI x1]) (σ1 := σ) (P := []) rfl trivial ?_
      by_cases g3 : (((72 : Int32) + (σ.1 0 0 23)) + (1 : Int32)) < 0 ∨ 88 ≤ (((72 : Int32) + (σ.1 0 0 23)) + (1 : Int32)).toNatClampNeg
      · rw [if_pos g3] at hm; cases hm
      rw [if_neg g3] at hm
      refine XW.bb B [(34, .iaload)] (by decide +kernel) (pc1 := 35) (ls1 := [some (aR 0 0), some (aI x1)]) (st1 := [aI (σ.2.1 1 0 (((72 : Int32) + (σ.1 0 0 23)) + (1 : Int32)).toNatClampNeg), aI x1]) (σ1 := σ) (P := [vp_in (((72 : Int32) + (σ.1 0 0 23)) + (1 : Int32)) 88]) (i := .if_icmp .le 6) (tgt := 41) (q := x1 ≤ (σ.2.1 1 0 (((72 : Int32) + (σ.1 0 0 23)) + (1 : Int32)).toNatClampNeg)) rfl ⟨g3, trivial⟩ (by decide +kernel) rfl (by decide) (fun h4 => ?_) (fun h4 => ?_)
      · rw [if_pos h4] at hm
        refine XW.bk B [(41, .aload_n 0), (42, .dup), (43, .getfield 72), (46, .iconst 1), (47, .iadd), (48, .putfield 72), (51, .aload_n 0), (52, .dup), (53, .getfield 282), (56, .iconst 1), (57, .iadd), (58, .putfield 282), (61, .aload_n 0), (62, .dup), (63, .getfield 298), (66, .iconst 1), (67, .iadd), (68, .putfield 298), (71, .aload_n 0), (72, .iload_n 1), (73, .iconst 0)] (by decide +kernel) (pc1 := 74) (ls1 := [some (aR 0 0), some (aI x1)]) (st1 := [aI (0 : Int32), aI x1, aR 0 0]) (σ1 := (sI (sI (sI σ 0 0 23 ((σ.1 0 0 23) + (1 : Int32))) 0 0 24 ((σ.1 0 0 24) + (1 : Int32))) 0 0 29 ((σ.1 0 0 29) + (1 : Int32)))) (P := []) rfl trivial ?_
        obtain ⟨q5, hq5, hm⟩ := obind_eq hm
        refine XW.callV B (M := M_X11_minuteIs) (t := 0) (j := 0) (cn := 1) (as := [aI x1, aI (0 : Int32)]) (c_X11_minuteIs x1 (0 : Int32) (sI (sI (sI σ 0 0 23 ((σ.1 0 0 23) + (1 : Int32))) 0 0 24 ((σ.1 0 0 24) + (1 : Int32))) 0 0 29 ((σ.1 0 0 29) + (1 : Int32))) hq5) (by decide) wV_X11_minuteIs wN_X11_minuteIs lk_X11_294 rfl rfl rfl (by decide) rfl (Nat.le_of_ble_eq_true rfl) (by decide +kernel) ?_
        obtain ⟨rfl, rfl⟩ := Prod.mk.inj (Option.some.inj hm)
        exact XW.iret B q (by decide +kernel)
      · rw [if_neg h4] at hm
        refine XW.bk B [(38, .bipush (-2))] (by decide +kernel) (pc1 := 40) (ls1 := [some (aR 0 0), some (aI x1)]) (st1 := [aI (-2 : Int32)]) (σ1 := σ) (P := []) rfl trivial ?_
        obtain ⟨rfl, rfl⟩ := Prod.mk.inj (Option.some.inj hm)
        exact XW.iret B q (by decide +kernel)
    · rw [if_neg h2] at hm
      refine XW.bk B [(17, .bipush (-5))] (by decide +kernel) (pc1 := 19) (ls1 := [some (aR 0 0), some (aI x1)]) (st1 := [aI (-5 : Int32)]) (σ1 := σ) (P := []) rfl trivial ?_
      obtain ⟨rfl, rfl⟩ := Prod.mk.inj (Option.some.inj hm)
      exact XW.iret B q (by decide +kernel)

def m_X11_rest (x1 : Int32) (σ : SS) : Option (Int32 × SS) :=
  if (m_X11_isHeld x1.toInt64) = (0 : Int32) then
    some ((-1 : Int32), σ)
  else
  if (0 : Int32) ≤ (σ.1 0 0 23) then
    if ((72 : Int32) + (σ.1 0 0 23)) < 0 ∨ 88 ≤ ((72 : Int32) + (σ.1 0 0 23)).toNatClampNeg then none else
    if x1 ≤ (σ.2.1 1 0 ((72 : Int32) + (σ.1 0 0 23)).toNatClampNeg) then
      Option.bind (m_X11_minuteIs x1 (1 : Int32) (sI (sI σ 0 0 24 ((σ.1 0 0 24) + (1 : Int32))) 0 0 30 ((σ.1 0 0 30) + (1 : Int32)))) (fun q5 =>
      some (q5.1, q5.2))
    else
    some ((-2 : Int32), σ)
  else
  some ((-5 : Int32), σ)
set_option maxRecDepth 100000 in
set_option maxHeartbeats 4000000 in
theorem c_X11_rest (x1 : Int32) (σ : SS) {r : Int32} {σ' : SS} (hm : m_X11_rest x1 σ = some (r, σ')) : XM LM 66 M_X11_rest [aR 0 0, aI x1] σ (some (aI r)) σ' := by
  refine XM.of (K := K11) (by decide) (by decide +kernel) K11_ok (Nat.le_of_ble_eq_true rfl) (fun Γ B q => ?_)
  unfold m_X11_rest at hm
  refine XW.bk B [(0, .iload_n 1), (1, .i2l)] (by decide +kernel) (pc1 := 2) (ls1 := [some (aR 0 0), some (aI x1)]) (st1 := [aJ x1.toInt64]) (σ1 := σ) (P := []) rfl trivial ?_
  refine XW.callS B (M := M_X11_isHeld) (as := [aJ x1.toInt64]) (c_X11_isHeld x1.toInt64 σ rfl) (by decide) wS_X11_isHeld wN_X11_isHeld lk_X11_120 rfl (Nat.le_of_ble_eq_true rfl) (by decide +kernel) ?_
  refine XW.bn B [] (by decide +kernel) (pc1 := 5) (ls1 := [some (aR 0 0), some (aI x1)]) (st1 := [aI (m_X11_isHeld x1.toInt64)]) (σ1 := σ) (P := []) (i := .ifCond .ne 5) (tgt := 10) (q := (m_X11_isHeld x1.toInt64) = (0 : Int32)) rfl trivial (by decide +kernel) rfl (by decide) (fun h1 => ?_) (fun h1 => ?_)
  · rw [if_pos h1] at hm
    refine XW.bk B [(8, .iconst (-1))] (by decide +kernel) (pc1 := 9) (ls1 := [some (aR 0 0), some (aI x1)]) (st1 := [aI (-1 : Int32)]) (σ1 := σ) (P := []) rfl trivial ?_
    obtain ⟨rfl, rfl⟩ := Prod.mk.inj (Option.some.inj hm)
    exact XW.iret B q (by decide +kernel)
  · rw [if_neg h1] at hm
    refine XW.bb B [(10, .aload_n 0), (11, .getfield 72)] (by decide +kernel) (pc1 := 14) (ls1 := [some (aR 0 0), some (aI x1)]) (st1 := [aI (σ.1 0 0 23)]) (σ1 := σ) (P := []) (i := .ifCond .ge 6) (tgt := 20) (q := (0 : Int32) ≤ (σ.1 0 0 23)) rfl trivial (by decide +kernel) rfl (by decide) (fun h2 => ?_) (fun h2 => ?_)
    · rw [if_pos h2] at hm
      refine XW.bk B [(20, .iload_n 1), (21, .aload_n 0), (22, .getfield 11), (25, .bipush 72), (27, .aload_n 0), (28, .getfield 72), (31, .iadd)] (by decide +kernel) (pc1 := 32) (ls1 := [some (aR 0 0), some (aI x1)]) (st1 := [aI ((72 : Int32) + (σ.1 0 0 23)), aR 1 0, aI x1]) (σ1 := σ) (P := []) rfl trivial ?_
      by_cases g3 : ((72 : Int32) + (σ.1 0 0 23)) < 0 ∨ 88 ≤ ((72 : Int32) + (σ.1 0 0 23)).toNatClampNeg
      · rw [if_pos g3] at hm; cases hm
      rw [if_neg g3] at hm
      refine XW.bb B [(32, .iaload)] (by decide +kernel) (pc1 := 33) (ls1 := [some (aR 0 0), some (aI x1)]) (st1 := [aI (σ.2.1 1 0 ((72 : Int32) + (σ.1 0 0 23)).toNatClampNeg), aI x1]) (σ1 := σ) (P := [vp_in ((72 : Int32) + (σ.1 0 0 23)) 88]) (i := .if_icmp .le 6) (tgt := 39) (q := x1 ≤ (σ.2.1 1 0 ((72 : Int32) + (σ.1 0 0 23)).toNatClampNeg)) rfl ⟨g3, trivial⟩ (by decide +kernel) rfl (by decide) (fun h4 => ?_) (fun h4 => ?_)
      · rw [if_pos h4] at hm
        refine XW.bk B [(39, .aload_n 0), (40, .dup), (41, .getfield 282), (44, .iconst 1), (45, .iadd), (46, .putfield 282), (49, .aload_n 0), (50, .dup), (51, .getfield 301), (54, .iconst 1), (55, .iadd), (56, .putfield 301), (59, .aload_n 0), (60, .iload_n 1), (61, .iconst 1)] (by decide +kernel) (pc1 := 62) (ls1 := [some (aR 0 0), some (aI x1)]) (st1 := [aI (1 : Int32), aI x1, aR 0 0]) (σ1 := (sI (sI σ 0 0 24 ((σ.1 0 0 24) + (1 : Int32))) 0 0 30 ((σ.1 0 0 30) + (1 : Int32)))) (P := []) rfl trivial ?_
        obtain ⟨q5, hq5, hm⟩ := obind_eq hm
        refine XW.callV B (M := M_X11_minuteIs) (t := 0) (j := 0) (cn := 1) (as := [aI x1, aI (1 : Int32)]) (c_X11_minuteIs x1 (1 : Int32) (sI (sI σ 0 0 24 ((σ.1 0 0 24) + (1 : Int32))) 0 0 30 ((σ.1 0 0 30) + (1 : Int32))) hq5) (by decide) wV_X11_minuteIs wN_X11_minuteIs lk_X11_294 rfl rfl rfl (by decide) rfl (Nat.le_of_ble_eq_true rfl) (by decide +kernel) ?_
        obtain ⟨rfl, rfl⟩ := Prod.mk.inj (Option.some.inj hm)
        exact XW.iret B q (by decide +kernel)
      · rw [if_neg h4] at hm
        refine XW.bk B [(36, .bipush (-2))] (by decide +kernel) (pc1 := 38) (ls1 := [some (aR 0 0), some (aI x1)]) (st1 := [aI (-2 : Int32)]) (σ1 := σ) (P := []) rfl trivial ?_
        obtain ⟨rfl, rfl⟩ := Prod.mk.inj (Option.some.inj hm)
        exact XW.iret B q (by decide +kernel)
    · rw [if_neg h2] at hm
      refine XW.bk B [(17, .bipush (-5))] (by decide +kernel) (pc1 := 19) (ls1 := [some (aR 0 0), some (aI x1)]) (st1 := [aI (-5 : Int32)]) (σ1 := σ) (P := []) rfl trivial ?_
      obtain ⟨rfl, rfl⟩ := Prod.mk.inj (Option.some.inj hm)
      exact XW.iret B q (by decide +kernel)

def m_X11_led (x1 : Int32) (σ : SS) : Int32 :=
  if x1 = (0 : Int32) then
    (σ.1 0 0 27)
  else
  if x1 = (1 : Int32) then
    (σ.1 0 0 28)
  else
  if x1 = (2 : Int32) then
    (σ.1 0 0 29)
  else
  if x1 = (3 : Int32) then
    (σ.1 0 0 30)
  else
  if x1 = (4 : Int32) then
    (σ.1 0 0 31)
  else
  if x1 = (5 : Int32) then
    if (0 : Int32) ≤ (σ.1 0 0 23) then
      (σ.1 0 0 23)
    else
    (-2 : Int32)
  else
  if x1 = (6 : Int32) then
    if (0 : Int32) ≤ (σ.1 0 0 23) then
      (σ.1 0 0 26)
    else
    (0 : Int32)
  else
  (-1 : Int32)
set_option maxRecDepth 100000 in
set_option maxHeartbeats 4000000 in
theorem c_X11_led (x1 : Int32) (σ : SS) {r : Int32} (hm : m_X11_led x1 σ = r) : XM LM 1 M_X11_led [aR 0 0, aI x1] σ (some (aI r)) σ := by
  refine XM.of (K := K11) (by decide) (by decide +kernel) K11_ok (Nat.le_of_ble_eq_true rfl) (fun Γ B q => ?_)
  unfold m_X11_led at hm
  refine XW.bk B [(0, .iload_n 1)] (by decide +kernel) (pc1 := 1) (ls1 := [some (aR 0 0), some (aI x1)]) (st1 := [aI x1]) (σ1 := σ) (P := []) rfl trivial ?_
  by_cases h1 : x1 = (0 : Int32)
  · rw [if_pos h1] at hm
    refine XW.tsI B (0 : Int32) (dflt := 101) (n := 43) (lo := 0) (hi := 6) (offs := #[43, 48, 53, 58, 63, 68, 85]) (off := 43) (by decide +kernel) h1 (by decide +kernel) (tgt := 44) (by decide) ?_
    refine XW.bk B [(44, .aload_n 0), (45, .getfield 291)] (by decide +kernel) (pc1 := 48) (ls1 := [some (aR 0 0), some (aI x1)]) (st1 := [aI (σ.1 0 0 27)]) (σ1 := σ) (P := []) rfl trivial ?_
    subst hm
    exact XW.iret B q (by decide +kernel)
  rw [if_neg h1] at hm
  by_cases h2 : x1 = (1 : Int32)
  · rw [if_pos h2] at hm
    refine XW.tsI B (1 : Int32) (dflt := 101) (n := 43) (lo := 0) (hi := 6) (offs := #[43, 48, 53, 58, 63, 68, 85]) (off := 48) (by decide +kernel) h2 (by decide +kernel) (tgt := 49) (by decide) ?_
    refine XW.bk B [(49, .aload_n 0), (50, .getfield 288)] (by decide +kernel) (pc1 := 53) (ls1 := [some (aR 0 0), some (aI x1)]) (st1 := [aI (σ.1 0 0 28)]) (σ1 := σ) (P := []) rfl trivial ?_
    subst hm
    exact XW.iret B q (by decide +kernel)
  rw [if_neg h2] at hm
  by_cases h3 : x1 = (2 : Int32)
  · rw [if_pos h3] at hm
    refine XW.tsI B (2 : Int32) (dflt := 101) (n := 43) (lo := 0) (hi := 6) (offs := #[43, 48, 53, 58, 63, 68, 85]) (off := 53) (by decide +kernel) h3 (by decide +kernel) (tgt := 54) (by decide) ?_
    refine XW.bk B [(54, .aload_n 0), (55, .getfield 298)] (by decide +kernel) (pc1 := 58) (ls1 := [some (aR 0 0), some (aI x1)]) (st1 := [aI (σ.1 0 0 29)]) (σ1 := σ) (P := []) rfl trivial ?_
    subst hm
    exact XW.iret B q (by decide +kernel)
  rw [if_neg h3] at hm
  by_cases h4 : x1 = (3 : Int32)
  · rw [if_pos h4] at hm
    refine XW.tsI B (3 : Int32) (dflt := 101) (n := 43) (lo := 0) (hi := 6) (offs := #[43, 48, 53, 58, 63, 68, 85]) (off := 58) (by decide +kernel) h4 (by decide +kernel) (tgt := 59) (by decide) ?_
    refine XW.bk B [(59, .aload_n 0), (60, .getfield 301)] (by decide +kernel) (pc1 := 63) (ls1 := [some (aR 0 0), some (aI x1)]) (st1 := [aI (σ.1 0 0 30)]) (σ1 := σ) (P := []) rfl trivial ?_
    subst hm
    exact XW.iret B q (by decide +kernel)
  rw [if_neg h4] at hm
  by_cases h5 : x1 = (4 : Int32)
  · rw [if_pos h5] at hm
    refine XW.tsI B (4 : Int32) (dflt := 101) (n := 43) (lo := 0) (hi := 6) (offs := #[43, 48, 53, 58, 63, 68, 85]) (off := 63) (by decide +kernel) h5 (by decide +kernel) (tgt := 64) (by decide) ?_
    refine XW.bk B [(64, .aload_n 0), (65, .getfield 69)] (by decide +kernel) (pc1 := 68) (ls1 := [some (aR 0 0), some (aI x1)]) (st1 := [aI (σ.1 0 0 31)]) (σ1 := σ) (P := []) rfl trivial ?_
    subst hm
    exact XW.iret B q (by decide +kernel)
  rw [if_neg h5] at hm
  by_cases h6 : x1 = (5 : Int32)
  · rw [if_pos h6] at hm
    refine XW.tsI B (5 : Int32) (dflt := 101) (n := 43) (lo := 0) (hi := 6) (offs := #[43, 48, 53, 58, 63, 68, 85]) (off := 68) (by decide +kernel) h6 (by decide +kernel) (tgt := 69) (by decide) ?_
    refine XW.bb B [(69, .aload_n 0), (70, .getfield 72)] (by decide +kernel) (pc1 := 73) (ls1 := [some (aR 0 0), some (aI x1)]) (st1 := [aI (σ.1 0 0 23)]) (σ1 := σ) (P := []) (i := .ifCond .ge 8) (tgt := 81) (q := (0 : Int32) ≤ (σ.1 0 0 23)) rfl trivial (by decide +kernel) rfl (by decide) (fun h7 => ?_) (fun h7 => ?_)
    · rw [if_pos h7] at hm
      refine XW.bk B [(81, .aload_n 0), (82, .getfield 72)] (by decide +kernel) (pc1 := 85) (ls1 := [some (aR 0 0), some (aI x1)]) (st1 := [aI (σ.1 0 0 23)]) (σ1 := σ) (P := []) rfl trivial ?_
      subst hm
      exact XW.iret B q (by decide +kernel)
    · rw [if_neg h7] at hm
      refine XW.bk B [(76, .bipush (-2)), (78, .goto 7)] (by decide +kernel) (pc1 := 85) (ls1 := [some (aR 0 0), some (aI x1)]) (st1 := [aI (-2 : Int32)]) (σ1 := σ) (P := []) rfl trivial ?_
      subst hm
      exact XW.iret B q (by decide +kernel)
  rw [if_neg h6] at hm
  by_cases h8 : x1 = (6 : Int32)
  · rw [if_pos h8] at hm
    refine XW.tsI B (6 : Int32) (dflt := 101) (n := 43) (lo := 0) (hi := 6) (offs := #[43, 48, 53, 58, 63, 68, 85]) (off := 85) (by decide +kernel) h8 (by decide +kernel) (tgt := 86) (by decide) ?_
    refine XW.bb B [(86, .aload_n 0), (87, .getfield 72)] (by decide +kernel) (pc1 := 90) (ls1 := [some (aR 0 0), some (aI x1)]) (st1 := [aI (σ.1 0 0 23)]) (σ1 := σ) (P := []) (i := .ifCond .ge 7) (tgt := 97) (q := (0 : Int32) ≤ (σ.1 0 0 23)) rfl trivial (by decide +kernel) rfl (by decide) (fun h9 => ?_) (fun h9 => ?_)
    · rw [if_pos h9] at hm
      refine XW.bk B [(97, .aload_n 0), (98, .getfield 279)] (by decide +kernel) (pc1 := 101) (ls1 := [some (aR 0 0), some (aI x1)]) (st1 := [aI (σ.1 0 0 26)]) (σ1 := σ) (P := []) rfl trivial ?_
      subst hm
      exact XW.iret B q (by decide +kernel)
    · rw [if_neg h9] at hm
      refine XW.bk B [(93, .iconst 0), (94, .goto 7)] (by decide +kernel) (pc1 := 101) (ls1 := [some (aR 0 0), some (aI x1)]) (st1 := [aI (0 : Int32)]) (σ1 := σ) (P := []) rfl trivial ?_
      subst hm
      exact XW.iret B q (by decide +kernel)
  rw [if_neg h8] at hm
  refine XW.tsD B [(0 : Int32), (1 : Int32), (2 : Int32), (3 : Int32), (4 : Int32), (5 : Int32), (6 : Int32)] (dflt := 101) (n := 43) (lo := 0) (hi := 6) (offs := #[43, 48, 53, 58, 63, 68, 85]) (by decide +kernel) (List.forall_mem_cons.mpr ⟨h1, (List.forall_mem_cons.mpr ⟨h2, (List.forall_mem_cons.mpr ⟨h3, (List.forall_mem_cons.mpr ⟨h4, (List.forall_mem_cons.mpr ⟨h5, (List.forall_mem_cons.mpr ⟨h6, (List.forall_mem_cons.mpr ⟨h8, (fun _ hz => absurd hz List.not_mem_nil)⟩)⟩)⟩)⟩)⟩)⟩)⟩) (by decide +kernel) (by decide) (tgt := 102) (by decide) ?_
  refine XW.bk B [(102, .iconst (-1))] (by decide +kernel) (pc1 := 103) (ls1 := [some (aR 0 0), some (aI x1)]) (st1 := [aI (-1 : Int32)]) (σ1 := σ) (P := []) rfl trivial ?_
  subst hm
  exact XW.iret B q (by decide +kernel)

def L_X11_image_7 : Nat → Int32 → SS → Option (Int32 × SS)
  | 0, _, _ => none
  | n + 1, v1, σ =>
    if (5 : Int32) ≤ v1 then
      some ((σ.1 0 0 27), (sA (sA (sA (sA σ 11 0 (5 : Int32).toNatClampNeg (σ.1 0 0 23)) 11 0 (6 : Int32).toNatClampNeg (σ.1 0 0 24)) 11 0 (7 : Int32).toNatClampNeg (σ.1 0 0 25)) 11 0 (8 : Int32).toNatClampNeg (σ.1 0 0 26)))
    else
    if v1 < 0 ∨ 9 ≤ v1.toNatClampNeg then none else
    L_X11_image_7 n (v1 + (1 : Int32)) (sA σ 11 0 v1.toNatClampNeg (m_X11_led v1 σ))
def m_X11_image (σ : SS) : Option (Int32 × SS) :=
  L_X11_image_7 FU (0 : Int32) (sI σ 0 0 32 (1 : Int32))
set_option maxRecDepth 100000 in
set_option maxHeartbeats 4000000 in
theorem lp_X11_image_7 {Γ : XC} {r : Int32} {σ' : SS} (B : XB Γ cX11_image RX11 2 K11 LM 2) (q : XQ Γ (some .int) (some (aI r)) σ') : ∀ (n : Nat) (v1 : Int32) (σ : SS), L_X11_image_7 n v1 σ = some (r, σ') → XW Γ 7 [some (aR 0 0), some (aI v1)] [] σ := by
  intro n
  induction n with
  | zero => intro v1 σ hm; cases hm
  | succ n ih =>
    intro v1 σ hm
    rw [L_X11_image_7] at hm
    refine XW.bb B [(7, .iload_n 1), (8, .iconst 5)] (by decide +kernel) (pc1 := 9) (ls1 := [some (aR 0 0), some (aI v1)]) (st1 := [aI (5 : Int32), aI v1]) (σ1 := σ) (P := []) (i := .if_icmp .ge 20) (tgt := 29) (q := (5 : Int32) ≤ v1) rfl trivial (by decide +kernel) rfl (by decide) (fun h1 => ?_) (fun h1 => ?_)
    · rw [if_pos h1] at hm
      refine XW.bk B [(29, .aload_n 0), (30, .getfield 42), (33, .iconst 5), (34, .aload_n 0), (35, .getfield 72), (38, .iastore), (39, .aload_n 0), (40, .getfield 42), (43, .bipush 6), (45, .aload_n 0), (46, .getfield 282), (49, .iastore), (50, .aload_n 0), (51, .getfield 42), (54, .bipush 7), (56, .aload_n 0), (57, .getfield 285), (60, .iastore), (61, .aload_n 0), (62, .getfield 42), (65, .bipush 8), (67, .aload_n 0), (68, .getfield 279), (71, .iastore), (72, .aload_n 0), (73, .getfield 291)] (by decide +kernel) (pc1 := 76) (ls1 := [some (aR 0 0), some (aI v1)]) (st1 := [aI (σ.1 0 0 27)]) (σ1 := (sA (sA (sA (sA σ 11 0 (5 : Int32).toNatClampNeg (σ.1 0 0 23)) 11 0 (6 : Int32).toNatClampNeg (σ.1 0 0 24)) 11 0 (7 : Int32).toNatClampNeg (σ.1 0 0 25)) 11 0 (8 : Int32).toNatClampNeg (σ.1 0 0 26))) (P := [vp_in (5 : Int32) 9, vp_in (6 : Int32) 9, vp_in (7 : Int32) 9, vp_in (8 : Int32) 9]) rfl ⟨(vin_lit (by decide +kernel)), (vin_lit (by decide +kernel)), (vin_lit (by decide +kernel)), (vin_lit (by decide +kernel)), trivial⟩ ?_
      obtain ⟨rfl, rfl⟩ := Prod.mk.inj (Option.some.inj hm)
      exact XW.iret B q (by decide +kernel)
    · rw [if_neg h1] at hm
      refine XW.bk B [(12, .aload_n 0), (13, .getfield 42), (16, .iload_n 1), (17, .aload_n 0), (18, .iload_n 1)] (by decide +kernel) (pc1 := 19) (ls1 := [some (aR 0 0), some (aI v1)]) (st1 := [aI v1, aR 0 0, aI v1, aR 11 0]) (σ1 := σ) (P := []) rfl trivial ?_
      refine XW.callV B (M := M_X11_led) (t := 0) (j := 0) (cn := 1) (as := [aI v1]) (c_X11_led v1 σ rfl) (by decide) wV_X11_led wN_X11_led lk_X11_308 rfl rfl rfl (by decide) rfl (Nat.le_of_ble_eq_true rfl) (by decide +kernel) ?_
      by_cases g2 : v1 < 0 ∨ 9 ≤ v1.toNatClampNeg
      · rw [if_pos g2] at hm; cases hm
      rw [if_neg g2] at hm
      refine XW.bk B [(22, .iastore), (23, .iinc 1 1), (26, .goto (-19))] (by decide +kernel) (pc1 := 7) (ls1 := [some (aR 0 0), some (aI (v1 + (1 : Int32)))]) (st1 := []) (σ1 := (sA σ 11 0 v1.toNatClampNeg (m_X11_led v1 σ))) (P := [vp_in v1 9]) rfl ⟨g2, trivial⟩ ?_
      exact ih (v1 + (1 : Int32)) (sA σ 11 0 v1.toNatClampNeg (m_X11_led v1 σ)) hm
set_option maxRecDepth 100000 in
set_option maxHeartbeats 4000000 in
theorem c_X11_image (σ : SS) {r : Int32} {σ' : SS} (hm : m_X11_image σ = some (r, σ')) : XM LM 2 M_X11_image [aR 0 0] σ (some (aI r)) σ' := by
  refine XM.of (K := K11) (by decide) (by decide +kernel) K11_ok (Nat.le_of_ble_eq_true rfl) (fun Γ B q => ?_)
  unfold m_X11_image at hm
  refine XW.bk B [(0, .aload_n 0), (1, .iconst 1)] (by decide +kernel) (pc1 := 2) (ls1 := [some (aR 0 0), none]) (st1 := [aI (1 : Int32), aR 0 0]) (σ1 := σ) (P := []) rfl trivial ?_
  refine XW.putz B (x := 304) (ci := 11) (k := 32) (cn := 1) ⟨_, _, _, rfl, by decide, GW_5 24 rfl rfl, rfl, rfl, by decide +kernel⟩ rfl rfl (by decide) (by decide) (by decide +kernel) ?_
  refine XW.bk B [(5, .iconst 0), (6, .istore_n 1)] (by decide +kernel) (pc1 := 7) (ls1 := [some (aR 0 0), some (aI (0 : Int32))]) (st1 := []) (σ1 := (sI σ 0 0 32 (1 : Int32))) (P := []) rfl trivial ?_
  exact lp_X11_image_7 B q FU (0 : Int32) (sI σ 0 0 32 (1 : Int32)) hm

def m_X11_back (σ : SS) : Int32 × SS :=
  if (σ.1 0 0 32) = (0 : Int32) then
    ((-5 : Int32), σ)
  else
  ((σ.2.1 11 0 (0 : Int32).toNatClampNeg), (sI (sI (sI (sI (sI (sI (sI (sI (sI σ 0 0 27 (σ.2.1 11 0 (0 : Int32).toNatClampNeg)) 0 0 28 (σ.2.1 11 0 (1 : Int32).toNatClampNeg)) 0 0 29 (σ.2.1 11 0 (2 : Int32).toNatClampNeg)) 0 0 30 (σ.2.1 11 0 (3 : Int32).toNatClampNeg)) 0 0 31 (σ.2.1 11 0 (4 : Int32).toNatClampNeg)) 0 0 23 (σ.2.1 11 0 (5 : Int32).toNatClampNeg)) 0 0 24 (σ.2.1 11 0 (6 : Int32).toNatClampNeg)) 0 0 25 (σ.2.1 11 0 (7 : Int32).toNatClampNeg)) 0 0 26 (σ.2.1 11 0 (8 : Int32).toNatClampNeg)))
set_option maxRecDepth 100000 in
set_option maxHeartbeats 4000000 in
theorem c_X11_back (σ : SS) {r : Int32} {σ' : SS} (hm : m_X11_back σ = (r, σ')) : XM LM 1 M_X11_back [aR 0 0] σ (some (aI r)) σ' := by
  refine XM.of (K := K11) (by decide) (by decide +kernel) K11_ok (Nat.le_of_ble_eq_true rfl) (fun Γ B q => ?_)
  unfold m_X11_back at hm
  refine XW.bn B [(0, .aload_n 0), (1, .getfield 304)] (by decide +kernel) (pc1 := 4) (ls1 := [some (aR 0 0)]) (st1 := [aI (σ.1 0 0 32)]) (σ1 := σ) (P := []) (i := .ifCond .ne 6) (tgt := 10) (q := (σ.1 0 0 32) = (0 : Int32)) rfl trivial (by decide +kernel) rfl (by decide) (fun h1 => ?_) (fun h1 => ?_)
  · rw [if_pos h1] at hm
    refine XW.bk B [(7, .bipush (-5))] (by decide +kernel) (pc1 := 9) (ls1 := [some (aR 0 0)]) (st1 := [aI (-5 : Int32)]) (σ1 := σ) (P := []) rfl trivial ?_
    obtain ⟨rfl, rfl⟩ := Prod.mk.inj (hm)
    exact XW.iret B q (by decide +kernel)
  · rw [if_neg h1] at hm
    refine XW.bk B [(10, .aload_n 0), (11, .aload_n 0), (12, .getfield 42), (15, .iconst 0), (16, .iaload), (17, .putfield 291), (20, .aload_n 0), (21, .aload_n 0), (22, .getfield 42), (25, .iconst 1), (26, .iaload), (27, .putfield 288), (30, .aload_n 0), (31, .aload_n 0), (32, .getfield 42), (35, .iconst 2), (36, .iaload), (37, .putfield 298), (40, .aload_n 0), (41, .aload_n 0), (42, .getfield 42), (45, .iconst 3), (46, .iaload), (47, .putfield 301), (50, .aload_n 0), (51, .aload_n 0), (52, .getfield 42), (55, .iconst 4), (56, .iaload), (57, .putfield 69), (60, .aload_n 0), (61, .aload_n 0), (62, .getfield 42), (65, .iconst 5), (66, .iaload), (67, .putfield 72), (70, .aload_n 0), (71, .aload_n 0), (72, .getfield 42), (75, .bipush 6), (77, .iaload), (78, .putfield 282), (81, .aload_n 0), (82, .aload_n 0), (83, .getfield 42), (86, .bipush 7), (88, .iaload), (89, .putfield 285), (92, .aload_n 0), (93, .aload_n 0), (94, .getfield 42), (97, .bipush 8), (99, .iaload), (100, .putfield 279), (103, .aload_n 0), (104, .getfield 291)] (by decide +kernel) (pc1 := 107) (ls1 := [some (aR 0 0)]) (st1 := [aI (σ.2.1 11 0 (0 : Int32).toNatClampNeg)]) (σ1 := (sI (sI (sI (sI (sI (sI (sI (sI (sI σ 0 0 27 (σ.2.1 11 0 (0 : Int32).toNatClampNeg)) 0 0 28 (σ.2.1 11 0 (1 : Int32).toNatClampNeg)) 0 0 29 (σ.2.1 11 0 (2 : Int32).toNatClampNeg)) 0 0 30 (σ.2.1 11 0 (3 : Int32).toNatClampNeg)) 0 0 31 (σ.2.1 11 0 (4 : Int32).toNatClampNeg)) 0 0 23 (σ.2.1 11 0 (5 : Int32).toNatClampNeg)) 0 0 24 (σ.2.1 11 0 (6 : Int32).toNatClampNeg)) 0 0 25 (σ.2.1 11 0 (7 : Int32).toNatClampNeg)) 0 0 26 (σ.2.1 11 0 (8 : Int32).toNatClampNeg))) (P := [vp_in (0 : Int32) 9, vp_in (1 : Int32) 9, vp_in (2 : Int32) 9, vp_in (3 : Int32) 9, vp_in (4 : Int32) 9, vp_in (5 : Int32) 9, vp_in (6 : Int32) 9, vp_in (7 : Int32) 9, vp_in (8 : Int32) 9]) rfl ⟨(vin_lit (by decide +kernel)), (vin_lit (by decide +kernel)), (vin_lit (by decide +kernel)), (vin_lit (by decide +kernel)), (vin_lit (by decide +kernel)), (vin_lit (by decide +kernel)), (vin_lit (by decide +kernel)), (vin_lit (by decide +kernel)), (vin_lit (by decide +kernel)), trivial⟩ ?_
    obtain ⟨rfl, rfl⟩ := Prod.mk.inj (hm)
    exact XW.iret B q (by decide +kernel)

def m_X11_isBody (x1 : Int32) (σ : SS) : Int32 :=
  (m_X11_within x1.toInt64 (0 : Int64) (((σ.1 0 0 34) - (1 : Int32)).toInt64))
set_option maxRecDepth 100000 in
set_option maxHeartbeats 4000000 in
theorem c_X11_isBody (x1 : Int32) (σ : SS) {r : Int32} (hm : m_X11_isBody x1 σ = r) : XM LM 2 M_X11_isBody [aR 0 0, aI x1] σ (some (aI r)) σ := by
  refine XM.of (K := K11) (by decide) (by decide +kernel) K11_ok (Nat.le_of_ble_eq_true rfl) (fun Γ B q => ?_)
  unfold m_X11_isBody at hm
  refine XW.bk B [(0, .iload_n 1), (1, .i2l), (2, .lconst 0), (3, .aload_n 0), (4, .getfield 311), (7, .iconst 1), (8, .isub), (9, .i2l)] (by decide +kernel) (pc1 := 10) (ls1 := [some (aR 0 0), some (aI x1)]) (st1 := [aJ (((σ.1 0 0 34) - (1 : Int32)).toInt64), aJ (0 : Int64), aJ x1.toInt64]) (σ1 := σ) (P := []) rfl trivial ?_
  refine XW.callS B (M := M_X11_within) (as := [aJ x1.toInt64, aJ (0 : Int64), aJ (((σ.1 0 0 34) - (1 : Int32)).toInt64)]) (c_X11_within x1.toInt64 (0 : Int64) (((σ.1 0 0 34) - (1 : Int32)).toInt64) σ rfl) (by decide) wS_X11_within wN_X11_within lk_X11_84 rfl (Nat.le_of_ble_eq_true rfl) (by decide +kernel) ?_
  subst hm
  exact XW.zret B q (b_X11_within x1.toInt64 (0 : Int64) (((σ.1 0 0 34) - (1 : Int32)).toInt64)) (by decide +kernel)
theorem b_X11_isBody (x1 : Int32) (σ : SS) : m_X11_isBody x1 σ = 0 ∨ m_X11_isBody x1 σ = 1 := by
  unfold m_X11_isBody
  (repeat' split) <;> first | (with_reducible exact Or.inl rfl) | (with_reducible exact Or.inr rfl) | (with_reducible exact (b_X11_within x1.toInt64 (0 : Int64) (((σ.1 0 0 34) - (1 : Int32)).toInt64)))

def m_X11_kindOf (x1 : Int32) (σ : SS) : Option (Int32) :=
  if x1 < 0 ∨ 50 ≤ x1.toNatClampNeg then none else
  some (σ.2.1 12 0 x1.toNatClampNeg)
set_option maxRecDepth 100000 in
set_option maxHeartbeats 4000000 in
theorem c_X11_kindOf (x1 : Int32) (σ : SS) {r : Int32} (hm : m_X11_kindOf x1 σ = some r) : XM LM 1 M_X11_kindOf [aR 0 0, aI x1] σ (some (aI r)) σ := by
  refine XM.of (K := K11) (by decide) (by decide +kernel) K11_ok (Nat.le_of_ble_eq_true rfl) (fun Γ B q => ?_)
  unfold m_X11_kindOf at hm
  refine XW.bk B [(0, .aload_n 0), (1, .getfield 45), (4, .iload_n 1)] (by decide +kernel) (pc1 := 5) (ls1 := [some (aR 0 0), some (aI x1)]) (st1 := [aI x1, aR 12 0]) (σ1 := σ) (P := []) rfl trivial ?_
  by_cases g1 : x1 < 0 ∨ 50 ≤ x1.toNatClampNeg
  · rw [if_pos g1] at hm; cases hm
  rw [if_neg g1] at hm
  refine XW.bk B [(5, .iaload)] (by decide +kernel) (pc1 := 6) (ls1 := [some (aR 0 0), some (aI x1)]) (st1 := [aI (σ.2.1 12 0 x1.toNatClampNeg)]) (σ1 := σ) (P := [vp_in x1 50]) rfl ⟨g1, trivial⟩ ?_
  obtain rfl := Option.some.inj hm
  exact XW.iret B q (by decide +kernel)

def m_X11_body (x1 : Int32) (σ : SS) : Option (Int32 × SS) :=
  if (m_X11_within x1.toInt64 (0 : Int64) (7 : Int64)) = (0 : Int32) then
    some ((-1 : Int32), σ)
  else
  if (σ.1 0 0 34) = (50 : Int32) then
    some ((-3 : Int32), σ)
  else
  if (σ.1 0 0 34) < 0 ∨ 50 ≤ (σ.1 0 0 34).toNatClampNeg then none else
  some ((((σ.1 0 0 34) + (1 : Int32)) - (1 : Int32)), (sI (sA σ 12 0 (σ.1 0 0 34).toNatClampNeg x1) 0 0 34 ((σ.1 0 0 34) + (1 : Int32))))
set_option maxRecDepth 100000 in
set_option maxHeartbeats 4000000 in
theorem c_X11_body (x1 : Int32) (σ : SS) {r : Int32} {σ' : SS} (hm : m_X11_body x1 σ = some (r, σ')) : XM LM 2 M_X11_body [aR 0 0, aI x1] σ (some (aI r)) σ' := by
  refine XM.of (K := K11) (by decide) (by decide +kernel) K11_ok (Nat.le_of_ble_eq_true rfl) (fun Γ B q => ?_)
  unfold m_X11_body at hm
  refine XW.bk B [(0, .iload_n 1), (1, .i2l), (2, .lconst 0), (3, .ldc2_w 114)] (by decide +kernel) (pc1 := 6) (ls1 := [some (aR 0 0), some (aI x1)]) (st1 := [aJ (7 : Int64), aJ (0 : Int64), aJ x1.toInt64]) (σ1 := σ) (P := []) rfl trivial ?_
  refine XW.callS B (M := M_X11_within) (as := [aJ x1.toInt64, aJ (0 : Int64), aJ (7 : Int64)]) (c_X11_within x1.toInt64 (0 : Int64) (7 : Int64) σ rfl) (by decide) wS_X11_within wN_X11_within lk_X11_84 rfl (Nat.le_of_ble_eq_true rfl) (by decide +kernel) ?_
  refine XW.bn B [] (by decide +kernel) (pc1 := 9) (ls1 := [some (aR 0 0), some (aI x1)]) (st1 := [aI (m_X11_within x1.toInt64 (0 : Int64) (7 : Int64))]) (σ1 := σ) (P := []) (i := .ifCond .ne 5) (tgt := 14) (q := (m_X11_within x1.toInt64 (0 : Int64) (7 : Int64)) = (0 : Int32)) rfl trivial (by decide +kernel) rfl (by decide) (fun h1 => ?_) (fun h1 => ?_)
  · rw [if_pos h1] at hm
    refine XW.bk B [(12, .iconst (-1))] (by decide +kernel) (pc1 := 13) (ls1 := [some (aR 0 0), some (aI x1)]) (st1 := [aI (-1 : Int32)]) (σ1 := σ) (P := []) rfl trivial ?_
    obtain ⟨rfl, rfl⟩ := Prod.mk.inj (Option.some.inj hm)
    exact XW.iret B q (by decide +kernel)
  · rw [if_neg h1] at hm
    refine XW.bn B [(14, .aload_n 0), (15, .getfield 311), (18, .bipush 50)] (by decide +kernel) (pc1 := 20) (ls1 := [some (aR 0 0), some (aI x1)]) (st1 := [aI (50 : Int32), aI (σ.1 0 0 34)]) (σ1 := σ) (P := []) (i := .if_icmp .ne 6) (tgt := 26) (q := (σ.1 0 0 34) = (50 : Int32)) rfl trivial (by decide +kernel) rfl (by decide) (fun h2 => ?_) (fun h2 => ?_)
    · rw [if_pos h2] at hm
      refine XW.bk B [(23, .bipush (-3))] (by decide +kernel) (pc1 := 25) (ls1 := [some (aR 0 0), some (aI x1)]) (st1 := [aI (-3 : Int32)]) (σ1 := σ) (P := []) rfl trivial ?_
      obtain ⟨rfl, rfl⟩ := Prod.mk.inj (Option.some.inj hm)
      exact XW.iret B q (by decide +kernel)
    · rw [if_neg h2] at hm
      refine XW.bk B [(26, .aload_n 0), (27, .getfield 45), (30, .aload_n 0), (31, .getfield 311), (34, .iload_n 1)] (by decide +kernel) (pc1 := 35) (ls1 := [some (aR 0 0), some (aI x1)]) (st1 := [aI x1, aI (σ.1 0 0 34), aR 12 0]) (σ1 := σ) (P := []) rfl trivial ?_
      by_cases g3 : (σ.1 0 0 34) < 0 ∨ 50 ≤ (σ.1 0 0 34).toNatClampNeg
      · rw [if_pos g3] at hm; cases hm
      rw [if_neg g3] at hm
      refine XW.bk B [(35, .iastore), (36, .aload_n 0), (37, .dup), (38, .getfield 311), (41, .iconst 1), (42, .iadd), (43, .putfield 311), (46, .aload_n 0), (47, .getfield 311), (50, .iconst 1), (51, .isub)] (by decide +kernel) (pc1 := 52) (ls1 := [some (aR 0 0), some (aI x1)]) (st1 := [aI (((σ.1 0 0 34) + (1 : Int32)) - (1 : Int32))]) (σ1 := (sI (sA σ 12 0 (σ.1 0 0 34).toNatClampNeg x1) 0 0 34 ((σ.1 0 0 34) + (1 : Int32)))) (P := [vp_in (σ.1 0 0 34) 50]) rfl ⟨g3, trivial⟩ ?_
      obtain ⟨rfl, rfl⟩ := Prod.mk.inj (Option.some.inj hm)
      exact XW.iret B q (by decide +kernel)

def m_X11_above (x1 : Int32) : Int32 :=
  if x1 = (3 : Int32) then
    (2 : Int32)
  else
  if x1 = (4 : Int32) then
    (1 : Int32)
  else
  if x1 = (5 : Int32) then
    (3 : Int32)
  else
  if x1 = (7 : Int32) then
    (4 : Int32)
  else
  (0 : Int32)
set_option maxRecDepth 100000 in
set_option maxHeartbeats 4000000 in
theorem c_X11_above (x1 : Int32) (σ : SS) {r : Int32} (hm : m_X11_above x1 = r) : XM LM 1 M_X11_above [aI x1] σ (some (aI r)) σ := by
  refine XM.of (K := K11) (by decide) (by decide +kernel) K11_ok (Nat.le_of_ble_eq_true rfl) (fun Γ B q => ?_)
  unfold m_X11_above at hm
  refine XW.bn B [(0, .iload_n 0), (1, .iconst 3)] (by decide +kernel) (pc1 := 2) (ls1 := [some (aI x1)]) (st1 := [aI (3 : Int32), aI x1]) (σ1 := σ) (P := []) (i := .if_icmp .ne 7) (tgt := 9) (q := x1 = (3 : Int32)) rfl trivial (by decide +kernel) rfl (by decide) (fun h1 => ?_) (fun h1 => ?_)
  · rw [if_pos h1] at hm
    refine XW.bk B [(5, .iconst 2), (6, .goto 32)] (by decide +kernel) (pc1 := 38) (ls1 := [some (aI x1)]) (st1 := [aI (2 : Int32)]) (σ1 := σ) (P := []) rfl trivial ?_
    subst hm
    exact XW.iret B q (by decide +kernel)
  · rw [if_neg h1] at hm
    refine XW.bn B [(9, .iload_n 0), (10, .iconst 4)] (by decide +kernel) (pc1 := 11) (ls1 := [some (aI x1)]) (st1 := [aI (4 : Int32), aI x1]) (σ1 := σ) (P := []) (i := .if_icmp .ne 7) (tgt := 18) (q := x1 = (4 : Int32)) rfl trivial (by decide +kernel) rfl (by decide) (fun h2 => ?_) (fun h2 => ?_)
    · rw [if_pos h2] at hm
      refine XW.bk B [(14, .iconst 1), (15, .goto 23)] (by decide +kernel) (pc1 := 38) (ls1 := [some (aI x1)]) (st1 := [aI (1 : Int32)]) (σ1 := σ) (P := []) rfl trivial ?_
      subst hm
      exact XW.iret B q (by decide +kernel)
    · rw [if_neg h2] at hm
      refine XW.bn B [(18, .iload_n 0), (19, .iconst 5)] (by decide +kernel) (pc1 := 20) (ls1 := [some (aI x1)]) (st1 := [aI (5 : Int32), aI x1]) (σ1 := σ) (P := []) (i := .if_icmp .ne 7) (tgt := 27) (q := x1 = (5 : Int32)) rfl trivial (by decide +kernel) rfl (by decide) (fun h3 => ?_) (fun h3 => ?_)
      · rw [if_pos h3] at hm
        refine XW.bk B [(23, .iconst 3), (24, .goto 14)] (by decide +kernel) (pc1 := 38) (ls1 := [some (aI x1)]) (st1 := [aI (3 : Int32)]) (σ1 := σ) (P := []) rfl trivial ?_
        subst hm
        exact XW.iret B q (by decide +kernel)
      · rw [if_neg h3] at hm
        refine XW.bn B [(27, .iload_n 0), (28, .bipush 7)] (by decide +kernel) (pc1 := 30) (ls1 := [some (aI x1)]) (st1 := [aI (7 : Int32), aI x1]) (σ1 := σ) (P := []) (i := .if_icmp .ne 7) (tgt := 37) (q := x1 = (7 : Int32)) rfl trivial (by decide +kernel) rfl (by decide) (fun h4 => ?_) (fun h4 => ?_)
        · rw [if_pos h4] at hm
          refine XW.bk B [(33, .iconst 4), (34, .goto 4)] (by decide +kernel) (pc1 := 38) (ls1 := [some (aI x1)]) (st1 := [aI (4 : Int32)]) (σ1 := σ) (P := []) rfl trivial ?_
          subst hm
          exact XW.iret B q (by decide +kernel)
        · rw [if_neg h4] at hm
          refine XW.bk B [(37, .iconst 0)] (by decide +kernel) (pc1 := 38) (ls1 := [some (aI x1)]) (st1 := [aI (0 : Int32)]) (σ1 := σ) (P := []) rfl trivial ?_
          subst hm
          exact XW.iret B q (by decide +kernel)

def m_X11_begins (x1 : Int32) (σ : SS) : Option (SS) :=
  if (24 : Int32) ≤ (σ.1 0 0 37) then
    some (sI σ 0 0 37 ((σ.1 0 0 37) + (1 : Int32)))
  else
  if (σ.1 0 0 37) < 0 ∨ 24 ≤ (σ.1 0 0 37).toNatClampNeg then none else
  some (sI (sA σ 13 0 (σ.1 0 0 37).toNatClampNeg x1) 0 0 37 ((σ.1 0 0 37) + (1 : Int32)))
set_option maxRecDepth 100000 in
set_option maxHeartbeats 4000000 in
theorem c_X11_begins (x1 : Int32) (σ : SS) {σ' : SS} (hm : m_X11_begins x1 σ = some σ') : XM LM 1 M_X11_begins [aR 0 0, aI x1] σ none σ' := by
  refine XM.of (K := K11) (by decide) (by decide +kernel) K11_ok (Nat.le_of_ble_eq_true rfl) (fun Γ B q => ?_)
  unfold m_X11_begins at hm
  refine XW.bb B [(0, .aload_n 0), (1, .getfield 314), (4, .bipush 24)] (by decide +kernel) (pc1 := 6) (ls1 := [some (aR 0 0), some (aI x1)]) (st1 := [aI (24 : Int32), aI (σ.1 0 0 37)]) (σ1 := σ) (P := []) (i := .if_icmp .ge 13) (tgt := 19) (q := (24 : Int32) ≤ (σ.1 0 0 37)) rfl trivial (by decide +kernel) rfl (by decide) (fun h1 => ?_) (fun h1 => ?_)
  · rw [if_pos h1] at hm
    refine XW.bk B [(19, .aload_n 0), (20, .dup), (21, .getfield 314), (24, .iconst 1), (25, .iadd), (26, .putfield 314)] (by decide +kernel) (pc1 := 29) (ls1 := [some (aR 0 0), some (aI x1)]) (st1 := []) (σ1 := (sI σ 0 0 37 ((σ.1 0 0 37) + (1 : Int32)))) (P := []) rfl trivial ?_
    obtain rfl := Option.some.inj hm
    exact XW.vret B q (by decide +kernel)
  · rw [if_neg h1] at hm
    refine XW.bk B [(9, .aload_n 0), (10, .getfield 48), (13, .aload_n 0), (14, .getfield 314), (17, .iload_n 1)] (by decide +kernel) (pc1 := 18) (ls1 := [some (aR 0 0), some (aI x1)]) (st1 := [aI x1, aI (σ.1 0 0 37), aR 13 0]) (σ1 := σ) (P := []) rfl trivial ?_
    by_cases g2 : (σ.1 0 0 37) < 0 ∨ 24 ≤ (σ.1 0 0 37).toNatClampNeg
    · rw [if_pos g2] at hm; cases hm
    rw [if_neg g2] at hm
    refine XW.bk B [(18, .iastore), (19, .aload_n 0), (20, .dup), (21, .getfield 314), (24, .iconst 1), (25, .iadd), (26, .putfield 314)] (by decide +kernel) (pc1 := 29) (ls1 := [some (aR 0 0), some (aI x1)]) (st1 := []) (σ1 := (sI (sA σ 13 0 (σ.1 0 0 37).toNatClampNeg x1) 0 0 37 ((σ.1 0 0 37) + (1 : Int32)))) (P := [vp_in (σ.1 0 0 37) 24]) rfl ⟨g2, trivial⟩ ?_
    obtain rfl := Option.some.inj hm
    exact XW.vret B q (by decide +kernel)

def m_X11_goesAs (rec : Nat → Int32 → Int32 → SS → Option (Int32 × SS)) (x1 : Int32) (x2 : Int32) (σ : SS) : Option (Int32 × SS) :=
  if x1 = (1 : Int32) then
    Option.bind (m_X11_begins (20 : Int32) σ) (fun q2 =>
    Option.bind (rec 0 (0 : Int32) x2 q2) (fun q3 =>
    some ((q3.1 + (3 : Int32)), q3.2)))
  else
  if x1 = (4 : Int32) then
    Option.bind (m_X11_begins (20 : Int32) σ) (fun q5 =>
    Option.bind (rec 0 (0 : Int32) x2 q5) (fun q6 =>
    some ((q6.1 + (3 : Int32)), q6.2)))
  else
  if x1 = (7 : Int32) then
    Option.bind (m_X11_begins (20 : Int32) σ) (fun q8 =>
    Option.bind (rec 0 (0 : Int32) x2 q8) (fun q9 =>
    some ((q9.1 + (3 : Int32)), q9.2)))
  else
  if x1 = (6 : Int32) then
    Option.bind (m_X11_begins (70 : Int32) σ) (fun q11 =>
    Option.bind (rec 0 (0 : Int32) x2 q11) (fun q12 =>
    some ((q12.1 * (2 : Int32)), q12.2)))
  else
  Option.bind (m_X11_begins (1 : Int32) σ) (fun q13 =>
  some ((x2 + (q13.1 0 0 39)), q13))
set_option maxRecDepth 100000 in
set_option maxHeartbeats 4000000 in
theorem c_X11_goesAs (rec : Nat → Int32 → Int32 → SS → Option (Int32 × SS)) (dr : Nat) (hdr : 2 ≤ dr) (hrec_0 : ∀ (x1 : Int32) (x2 : Int32) (σ : SS) {r : Int32} {σ' : SS}, rec 0 x1 x2 σ = some (r, σ') → XM LM dr M_X11_goesAs [aR 0 0, aI x1, aI x2] σ (some (aI r)) σ') (hrec_1 : ∀ (x1 : Int32) (x2 : Int32) (σ : SS) {r : Int32} {σ' : SS}, rec 1 x1 x2 σ = some (r, σ') → XM LM dr M_X11_strainsAs [aR 0 0, aI x1, aI x2] σ (some (aI r)) σ') (hrec_2 : ∀ (x1 : Int32) (x2 : Int32) (σ : SS) {r : Int32} {σ' : SS}, rec 2 x1 x2 σ = some (r, σ') → XM LM dr M_X11_leansAs [aR 0 0, aI x1, aI x2] σ (some (aI r)) σ') (hrec_3 : ∀ (x1 : Int32) (x2 : Int32) (σ : SS) {r : Int32} {σ' : SS}, rec 3 x1 x2 σ = some (r, σ') → XM LM dr M_X11_tellsAs [aR 0 0, aI x1, aI x2] σ (some (aI r)) σ') (x1 : Int32) (x2 : Int32) (σ : SS) {r : Int32} {σ' : SS} (hm : m_X11_goesAs rec x1 x2 σ = some (r, σ')) : XM LM (dr + 1) M_X11_goesAs [aR 0 0, aI x1, aI x2] σ (some (aI r)) σ' := by
  refine XM.of (K := K11) (Nat.succ_le_succ (Nat.zero_le _)) (by decide +kernel) K11_ok (Nat.le_of_ble_eq_true rfl) (fun Γ B q => ?_)
  unfold m_X11_goesAs at hm
  refine XW.bb B [(0, .iload_n 1), (1, .iconst 1)] (by decide +kernel) (pc1 := 2) (ls1 := [some (aR 0 0), some (aI x1), some (aI x2)]) (st1 := [aI (1 : Int32), aI x1]) (σ1 := σ) (P := []) (i := .if_icmp .eq 14) (tgt := 16) (q := x1 = (1 : Int32)) rfl trivial (by decide +kernel) rfl (by decide) (fun h1 => ?_) (fun h1 => ?_)
  · rw [if_pos h1] at hm
    refine XW.bk B [(16, .aload_n 0), (17, .bipush 20)] (by decide +kernel) (pc1 := 19) (ls1 := [some (aR 0 0), some (aI x1), some (aI x2)]) (st1 := [aI (20 : Int32), aR 0 0]) (σ1 := σ) (P := []) rfl trivial ?_
    obtain ⟨q2, hq2, hm⟩ := obind_eq hm
    refine XW.callV B (M := M_X11_begins) (t := 0) (j := 0) (cn := 1) (as := [aI (20 : Int32)]) (c_X11_begins (20 : Int32) σ hq2) (by omega) wV_X11_begins wN_X11_begins lk_X11_317 rfl rfl rfl (by decide) rfl (Nat.le_of_ble_eq_true rfl) (by decide +kernel) ?_
    refine XW.bk B [(22, .aload_n 0), (23, .iconst 0), (24, .iload_n 2)] (by decide +kernel) (pc1 := 25) (ls1 := [some (aR 0 0), some (aI x1), some (aI x2)]) (st1 := [aI x2, aI (0 : Int32), aR 0 0]) (σ1 := q2) (P := []) rfl trivial ?_
    obtain ⟨q3, hq3, hm⟩ := obind_eq hm
    refine XW.callV B (M := M_X11_goesAs) (t := 0) (j := 0) (cn := 1) (as := [aI (0 : Int32), aI x2]) (hrec_0 (0 : Int32) x2 q2 hq3) (Nat.lt_succ_self _) wV_X11_goesAs wN_X11_goesAs lk_X11_320 rfl rfl rfl (by decide) rfl (Nat.le_of_ble_eq_true rfl) (by decide +kernel) ?_
    refine XW.bk B [(28, .iconst 3), (29, .iadd)] (by decide +kernel) (pc1 := 30) (ls1 := [some (aR 0 0), some (aI x1), some (aI x2)]) (st1 := [aI (q3.1 + (3 : Int32))]) (σ1 := q3.2) (P := []) rfl trivial ?_
    obtain ⟨rfl, rfl⟩ := Prod.mk.inj (Option.some.inj hm)
    exact XW.iret B q (by decide +kernel)
  · rw [if_neg h1] at hm
    refine XW.bb B [(5, .iload_n 1), (6, .iconst 4)] (by decide +kernel) (pc1 := 7) (ls1 := [some (aR 0 0), some (aI x1), some (aI x2)]) (st1 := [aI (4 : Int32), aI x1]) (σ1 := σ) (P := []) (i := .if_icmp .eq 9) (tgt := 16) (q := x1 = (4 : Int32)) rfl trivial (by decide +kernel) rfl (by decide) (fun h4 => ?_) (fun h4 => ?_)
    · rw [if_pos h4] at hm
      refine XW.bk B [(16, .aload_n 0), (17, .bipush 20)] (by decide +kernel) (pc1 := 19) (ls1 := [some (aR 0 0), some (aI x1), some (aI x2)]) (st1 := [aI (20 : Int32), aR 0 0]) (σ1 := σ) (P := []) rfl trivial ?_
      obtain ⟨q5, hq5, hm⟩ := obind_eq hm
      refine XW.callV B (M := M_X11_begins) (t := 0) (j := 0) (cn := 1) (as := [aI (20 : Int32)]) (c_X11_begins (20 : Int32) σ hq5) (by omega) wV_X11_begins wN_X11_begins lk_X11_317 rfl rfl rfl (by decide) rfl (Nat.le_of_ble_eq_true rfl) (by decide +kernel) ?_
      refine XW.bk B [(22, .aload_n 0), (23, .iconst 0), (24, .iload_n 2)] (by decide +kernel) (pc1 := 25) (ls1 := [some (aR 0 0), some (aI x1), some (aI x2)]) (st1 := [aI x2, aI (0 : Int32), aR 0 0]) (σ1 := q5) (P := []) rfl trivial ?_
      obtain ⟨q6, hq6, hm⟩ := obind_eq hm
      refine XW.callV B (M := M_X11_goesAs) (t := 0) (j := 0) (cn := 1) (as := [aI (0 : Int32), aI x2]) (hrec_0 (0 : Int32) x2 q5 hq6) (Nat.lt_succ_self _) wV_X11_goesAs wN_X11_goesAs lk_X11_320 rfl rfl rfl (by decide) rfl (Nat.le_of_ble_eq_true rfl) (by decide +kernel) ?_
      refine XW.bk B [(28, .iconst 3), (29, .iadd)] (by decide +kernel) (pc1 := 30) (ls1 := [some (aR 0 0), some (aI x1), some (aI x2)]) (st1 := [aI (q6.1 + (3 : Int32))]) (σ1 := q6.2) (P := []) rfl trivial ?_
      obtain ⟨rfl, rfl⟩ := Prod.mk.inj (Option.some.inj hm)
      exact XW.iret B q (by decide +kernel)
    · rw [if_neg h4] at hm
      refine XW.bn B [(10, .iload_n 1), (11, .bipush 7)] (by decide +kernel) (pc1 := 13) (ls1 := [some (aR 0 0), some (aI x1), some (aI x2)]) (st1 := [aI (7 : Int32), aI x1]) (σ1 := σ) (P := []) (i := .if_icmp .ne 18) (tgt := 31) (q := x1 = (7 : Int32)) rfl trivial (by decide +kernel) rfl (by decide) (fun h7 => ?_) (fun h7 => ?_)
      · rw [if_pos h7] at hm
        refine XW.bk B [(16, .aload_n 0), (17, .bipush 20)] (by decide +kernel) (pc1 := 19) (ls1 := [some (aR 0 0), some (aI x1), some (aI x2)]) (st1 := [aI (20 : Int32), aR 0 0]) (σ1 := σ) (P := []) rfl trivial ?_
        obtain ⟨q8, hq8, hm⟩ := obind_eq hm
        refine XW.callV B (M := M_X11_begins) (t := 0) (j := 0) (cn := 1) (as := [aI (20 : Int32)]) (c_X11_begins (20 : Int32) σ hq8) (by omega) wV_X11_begins wN_X11_begins lk_X11_317 rfl rfl rfl (by decide) rfl (Nat.le_of_ble_eq_true rfl) (by decide +kernel) ?_
        refine XW.bk B [(22, .aload_n 0), (23, .iconst 0), (24, .iload_n 2)] (by decide +kernel) (pc1 := 25) (ls1 := [some (aR 0 0), some (aI x1), some (aI x2)]) (st1 := [aI x2, aI (0 : Int32), aR 0 0]) (σ1 := q8) (P := []) rfl trivial ?_
        obtain ⟨q9, hq9, hm⟩ := obind_eq hm
        refine XW.callV B (M := M_X11_goesAs) (t := 0) (j := 0) (cn := 1) (as := [aI (0 : Int32), aI x2]) (hrec_0 (0 : Int32) x2 q8 hq9) (Nat.lt_succ_self _) wV_X11_goesAs wN_X11_goesAs lk_X11_320 rfl rfl rfl (by decide) rfl (Nat.le_of_ble_eq_true rfl) (by decide +kernel) ?_
        refine XW.bk B [(28, .iconst 3), (29, .iadd)] (by decide +kernel) (pc1 := 30) (ls1 := [some (aR 0 0), some (aI x1), some (aI x2)]) (st1 := [aI (q9.1 + (3 : Int32))]) (σ1 := q9.2) (P := []) rfl trivial ?_
        obtain ⟨rfl, rfl⟩ := Prod.mk.inj (Option.some.inj hm)
        exact XW.iret B q (by decide +kernel)
      · rw [if_neg h7] at hm
        refine XW.bn B [(31, .iload_n 1), (32, .bipush 6)] (by decide +kernel) (pc1 := 34) (ls1 := [some (aR 0 0), some (aI x1), some (aI x2)]) (st1 := [aI (6 : Int32), aI x1]) (σ1 := σ) (P := []) (i := .if_icmp .ne 18) (tgt := 52) (q := x1 = (6 : Int32)) rfl trivial (by decide +kernel) rfl (by decide) (fun h10 => ?_) (fun h10 => ?_)
        · rw [if_pos h10] at hm
          refine XW.bk B [(37, .aload_n 0), (38, .bipush 70)] (by decide +kernel) (pc1 := 40) (ls1 := [some (aR 0 0), some (aI x1), some (aI x2)]) (st1 := [aI (70 : Int32), aR 0 0]) (σ1 := σ) (P := []) rfl trivial ?_
          obtain ⟨q11, hq11, hm⟩ := obind_eq hm
          refine XW.callV B (M := M_X11_begins) (t := 0) (j := 0) (cn := 1) (as := [aI (70 : Int32)]) (c_X11_begins (70 : Int32) σ hq11) (by omega) wV_X11_begins wN_X11_begins lk_X11_317 rfl rfl rfl (by decide) rfl (Nat.le_of_ble_eq_true rfl) (by decide +kernel) ?_
          refine XW.bk B [(43, .aload_n 0), (44, .iconst 0), (45, .iload_n 2)] (by decide +kernel) (pc1 := 46) (ls1 := [some (aR 0 0), some (aI x1), some (aI x2)]) (st1 := [aI x2, aI (0 : Int32), aR 0 0]) (σ1 := q11) (P := []) rfl trivial ?_
          obtain ⟨q12, hq12, hm⟩ := obind_eq hm
          refine XW.callV B (M := M_X11_goesAs) (t := 0) (j := 0) (cn := 1) (as := [aI (0 : Int32), aI x2]) (hrec_0 (0 : Int32) x2 q11 hq12) (Nat.lt_succ_self _) wV_X11_goesAs wN_X11_goesAs lk_X11_320 rfl rfl rfl (by decide) rfl (Nat.le_of_ble_eq_true rfl) (by decide +kernel) ?_
          refine XW.bk B [(49, .iconst 2), (50, .imul)] (by decide +kernel) (pc1 := 51) (ls1 := [some (aR 0 0), some (aI x1), some (aI x2)]) (st1 := [aI (q12.1 * (2 : Int32))]) (σ1 := q12.2) (P := []) rfl trivial ?_
          obtain ⟨rfl, rfl⟩ := Prod.mk.inj (Option.some.inj hm)
          exact XW.iret B q (by decide +kernel)
        · rw [if_neg h10] at hm
          refine XW.bk B [(52, .aload_n 0), (53, .iconst 1)] (by decide +kernel) (pc1 := 54) (ls1 := [some (aR 0 0), some (aI x1), some (aI x2)]) (st1 := [aI (1 : Int32), aR 0 0]) (σ1 := σ) (P := []) rfl trivial ?_
          obtain ⟨q13, hq13, hm⟩ := obind_eq hm
          refine XW.callV B (M := M_X11_begins) (t := 0) (j := 0) (cn := 1) (as := [aI (1 : Int32)]) (c_X11_begins (1 : Int32) σ hq13) (by omega) wV_X11_begins wN_X11_begins lk_X11_317 rfl rfl rfl (by decide) rfl (Nat.le_of_ble_eq_true rfl) (by decide +kernel) ?_
          refine XW.bk B [(57, .iload_n 2), (58, .aload_n 0), (59, .getfield 323), (62, .iadd)] (by decide +kernel) (pc1 := 63) (ls1 := [some (aR 0 0), some (aI x1), some (aI x2)]) (st1 := [aI (x2 + (q13.1 0 0 39))]) (σ1 := q13) (P := []) rfl trivial ?_
          obtain ⟨rfl, rfl⟩ := Prod.mk.inj (Option.some.inj hm)
          exact XW.iret B q (by decide +kernel)
def m_X11_strainsAs (rec : Nat → Int32 → Int32 → SS → Option (Int32 × SS)) (x1 : Int32) (x2 : Int32) (σ : SS) : Option (Int32 × SS) :=
  if x1 = (3 : Int32) then
    Option.bind (m_X11_begins (41 : Int32) σ) (fun q2 =>
    Option.bind (rec 1 (2 : Int32) (x2 + (1 : Int32)) q2) (fun q3 =>
    some (q3.1, q3.2)))
  else
  if x1 = (5 : Int32) then
    Option.bind (m_X11_begins (41 : Int32) σ) (fun q5 =>
    Option.bind (rec 1 (2 : Int32) (x2 + (1 : Int32)) q5) (fun q6 =>
    some (q6.1, q6.2)))
  else
  if x1 = (2 : Int32) then
    Option.bind (m_X11_begins (30 : Int32) σ) (fun q8 =>
    Option.bind (rec 1 (0 : Int32) x2 q8) (fun q9 =>
    some ((-q9.1), q9.2)))
  else
  if x1 = (7 : Int32) then
    Option.bind (m_X11_begins (80 : Int32) σ) (fun q11 =>
    Option.bind (rec 1 (4 : Int32) x2 q11) (fun q12 =>
    Option.bind (rec 2 (q12.2.1 0 0 38) (2 : Int32) q12.2) (fun q13 =>
    some ((q12.1 + q13.1), q13.2))))
  else
  Option.bind (m_X11_begins (10 : Int32) σ) (fun q14 =>
  Option.bind (rec 0 (q14.1 0 0 38) x2 q14) (fun q15 =>
  some ((q15.1 * (2 : Int32)), q15.2)))
set_option maxRecDepth 100000 in
set_option maxHeartbeats 4000000 in
theorem c_X11_strainsAs (rec : Nat → Int32 → Int32 → SS → Option (Int32 × SS)) (dr : Nat) (hdr : 2 ≤ dr) (hrec_0 : ∀ (x1 : Int32) (x2 : Int32) (σ : SS) {r : Int32} {σ' : SS}, rec 0 x1 x2 σ = some (r, σ') → XM LM dr M_X11_goesAs [aR 0 0, aI x1, aI x2] σ (some (aI r)) σ') (hrec_1 : ∀ (x1 : Int32) (x2 : Int32) (σ : SS) {r : Int32} {σ' : SS}, rec 1 x1 x2 σ = some (r, σ') → XM LM dr M_X11_strainsAs [aR 0 0, aI x1, aI x2] σ (some (aI r)) σ') (hrec_2 : ∀ (x1 : Int32) (x2 : Int32) (σ : SS) {r : Int32} {σ' : SS}, rec 2 x1 x2 σ = some (r, σ') → XM LM dr M_X11_leansAs [aR 0 0, aI x1, aI x2] σ (some (aI r)) σ') (hrec_3 : ∀ (x1 : Int32) (x2 : Int32) (σ : SS) {r : Int32} {σ' : SS}, rec 3 x1 x2 σ = some (r, σ') → XM LM dr M_X11_tellsAs [aR 0 0, aI x1, aI x2] σ (some (aI r)) σ') (x1 : Int32) (x2 : Int32) (σ : SS) {r : Int32} {σ' : SS} (hm : m_X11_strainsAs rec x1 x2 σ = some (r, σ')) : XM LM (dr + 1) M_X11_strainsAs [aR 0 0, aI x1, aI x2] σ (some (aI r)) σ' := by
  refine XM.of (K := K11) (Nat.succ_le_succ (Nat.zero_le _)) (by decide +kernel) K11_ok (Nat.le_of_ble_eq_true rfl) (fun Γ B q => ?_)
  unfold m_X11_strainsAs at hm
  refine XW.bb B [(0, .iload_n 1), (1, .iconst 3)] (by decide +kernel) (pc1 := 2) (ls1 := [some (aR 0 0), some (aI x1), some (aI x2), none]) (st1 := [aI (3 : Int32), aI x1]) (σ1 := σ) (P := []) (i := .if_icmp .eq 8) (tgt := 10) (q := x1 = (3 : Int32)) rfl trivial (by decide +kernel) rfl (by decide) (fun h1 => ?_) (fun h1 => ?_)
  · rw [if_pos h1] at hm
    refine XW.bk B [(10, .aload_n 0), (11, .bipush 41)] (by decide +kernel) (pc1 := 13) (ls1 := [some (aR 0 0), some (aI x1), some (aI x2), none]) (st1 := [aI (41 : Int32), aR 0 0]) (σ1 := σ) (P := []) rfl trivial ?_
    obtain ⟨q2, hq2, hm⟩ := obind_eq hm
    refine XW.callV B (M := M_X11_begins) (t := 0) (j := 0) (cn := 1) (as := [aI (41 : Int32)]) (c_X11_begins (41 : Int32) σ hq2) (by omega) wV_X11_begins wN_X11_begins lk_X11_317 rfl rfl rfl (by decide) rfl (Nat.le_of_ble_eq_true rfl) (by decide +kernel) ?_
    refine XW.bk B [(16, .aload_n 0), (17, .iconst 2), (18, .iload_n 2), (19, .iconst 1), (20, .iadd)] (by decide +kernel) (pc1 := 21) (ls1 := [some (aR 0 0), some (aI x1), some (aI x2), none]) (st1 := [aI (x2 + (1 : Int32)), aI (2 : Int32), aR 0 0]) (σ1 := q2) (P := []) rfl trivial ?_
    obtain ⟨q3, hq3, hm⟩ := obind_eq hm
    refine XW.callV B (M := M_X11_strainsAs) (t := 0) (j := 0) (cn := 1) (as := [aI (2 : Int32), aI (x2 + (1 : Int32))]) (hrec_1 (2 : Int32) (x2 + (1 : Int32)) q2 hq3) (Nat.lt_succ_self _) wV_X11_strainsAs wN_X11_strainsAs lk_X11_326 rfl rfl rfl (by decide) rfl (Nat.le_of_ble_eq_true rfl) (by decide +kernel) ?_
    obtain ⟨rfl, rfl⟩ := Prod.mk.inj (Option.some.inj hm)
    exact XW.iret B q (by decide +kernel)
  · rw [if_neg h1] at hm
    refine XW.bn B [(5, .iload_n 1), (6, .iconst 5)] (by decide +kernel) (pc1 := 7) (ls1 := [some (aR 0 0), some (aI x1), some (aI x2), none]) (st1 := [aI (5 : Int32), aI x1]) (σ1 := σ) (P := []) (i := .if_icmp .ne 18) (tgt := 25) (q := x1 = (5 : Int32)) rfl trivial (by decide +kernel) rfl (by decide) (fun h4 => ?_) (fun h4 => ?_)
    · rw [if_pos h4] at hm
      refine XW.bk B [(10, .aload_n 0), (11, .bipush 41)] (by decide +kernel) (pc1 := 13) (ls1 := [some (aR 0 0), some (aI x1), some (aI x2), none]) (st1 := [aI (41 : Int32), aR 0 0]) (σ1 := σ) (P := []) rfl trivial ?_
      obtain ⟨q5, hq5, hm⟩ := obind_eq hm
      refine XW.callV B (M := M_X11_begins) (t := 0) (j := 0) (cn := 1) (as := [aI (41 : Int32)]) (c_X11_begins (41 : Int32) σ hq5) (by omega) wV_X11_begins wN_X11_begins lk_X11_317 rfl rfl rfl (by decide) rfl (Nat.le_of_ble_eq_true rfl) (by decide +kernel) ?_
      refine XW.bk B [(16, .aload_n 0), (17, .iconst 2), (18, .iload_n 2), (19, .iconst 1), (20, .iadd)] (by decide +kernel) (pc1 := 21) (ls1 := [some (aR 0 0), some (aI x1), some (aI x2), none]) (st1 := [aI (x2 + (1 : Int32)), aI (2 : Int32), aR 0 0]) (σ1 := q5) (P := []) rfl trivial ?_
      obtain ⟨q6, hq6, hm⟩ := obind_eq hm
      refine XW.callV B (M := M_X11_strainsAs) (t := 0) (j := 0) (cn := 1) (as := [aI (2 : Int32), aI (x2 + (1 : Int32))]) (hrec_1 (2 : Int32) (x2 + (1 : Int32)) q5 hq6) (Nat.lt_succ_self _) wV_X11_strainsAs wN_X11_strainsAs lk_X11_326 rfl rfl rfl (by decide) rfl (Nat.le_of_ble_eq_true rfl) (by decide +kernel) ?_
      obtain ⟨rfl, rfl⟩ := Prod.mk.inj (Option.some.inj hm)
      exact XW.iret B q (by decide +kernel)
    · rw [if_neg h4] at hm
      refine XW.bn B [(25, .iload_n 1), (26, .iconst 2)] (by decide +kernel) (pc1 := 27) (ls1 := [some (aR 0 0), some (aI x1), some (aI x2), none]) (st1 := [aI (2 : Int32), aI x1]) (σ1 := σ) (P := []) (i := .if_icmp .ne 17) (tgt := 44) (q := x1 = (2 : Int32)) rfl trivial (by decide +kernel) rfl (by decide) (fun h7 => ?_) (fun h7 => ?_)
      · rw [if_pos h7] at hm
        refine XW.bk B [(30, .aload_n 0), (31, .bipush 30)] (by decide +kernel) (pc1 := 33) (ls1 := [some (aR 0 0), some (aI x1), some (aI x2), none]) (st1 := [aI (30 : Int32), aR 0 0]) (σ1 := σ) (P := []) rfl trivial ?_
        obtain ⟨q8, hq8, hm⟩ := obind_eq hm
        refine XW.callV B (M := M_X11_begins) (t := 0) (j := 0) (cn := 1) (as := [aI (30 : Int32)]) (c_X11_begins (30 : Int32) σ hq8) (by omega) wV_X11_begins wN_X11_begins lk_X11_317 rfl rfl rfl (by decide) rfl (Nat.le_of_ble_eq_true rfl) (by decide +kernel) ?_
        refine XW.bk B [(36, .aload_n 0), (37, .iconst 0), (38, .iload_n 2)] (by decide +kernel) (pc1 := 39) (ls1 := [some (aR 0 0), some (aI x1), some (aI x2), none]) (st1 := [aI x2, aI (0 : Int32), aR 0 0]) (σ1 := q8) (P := []) rfl trivial ?_
        obtain ⟨q9, hq9, hm⟩ := obind_eq hm
        refine XW.callV B (M := M_X11_strainsAs) (t := 0) (j := 0) (cn := 1) (as := [aI (0 : Int32), aI x2]) (hrec_1 (0 : Int32) x2 q8 hq9) (Nat.lt_succ_self _) wV_X11_strainsAs wN_X11_strainsAs lk_X11_326 rfl rfl rfl (by decide) rfl (Nat.le_of_ble_eq_true rfl) (by decide +kernel) ?_
        refine XW.bk B [(42, .ineg)] (by decide +kernel) (pc1 := 43) (ls1 := [some (aR 0 0), some (aI x1), some (aI x2), none]) (st1 := [aI (-q9.1)]) (σ1 := q9.2) (P := []) rfl trivial ?_
        obtain ⟨rfl, rfl⟩ := Prod.mk.inj (Option.some.inj hm)
        exact XW.iret B q (by decide +kernel)
      · rw [if_neg h7] at hm
        refine XW.bn B [(44, .iload_n 1), (45, .bipush 7)] (by decide +kernel) (pc1 := 47) (ls1 := [some (aR 0 0), some (aI x1), some (aI x2), none]) (st1 := [aI (7 : Int32), aI x1]) (σ1 := σ) (P := []) (i := .if_icmp .ne 28) (tgt := 75) (q := x1 = (7 : Int32)) rfl trivial (by decide +kernel) rfl (by decide) (fun h10 => ?_) (fun h10 => ?_)
        · rw [if_pos h10] at hm
          refine XW.bk B [(50, .aload_n 0), (51, .bipush 80)] (by decide +kernel) (pc1 := 53) (ls1 := [some (aR 0 0), some (aI x1), some (aI x2), none]) (st1 := [aI (80 : Int32), aR 0 0]) (σ1 := σ) (P := []) rfl trivial ?_
          obtain ⟨q11, hq11, hm⟩ := obind_eq hm
          refine XW.callV B (M := M_X11_begins) (t := 0) (j := 0) (cn := 1) (as := [aI (80 : Int32)]) (c_X11_begins (80 : Int32) σ hq11) (by omega) wV_X11_begins wN_X11_begins lk_X11_317 rfl rfl rfl (by decide) rfl (Nat.le_of_ble_eq_true rfl) (by decide +kernel) ?_
          refine XW.bk B [(56, .aload_n 0), (57, .iconst 4), (58, .iload_n 2)] (by decide +kernel) (pc1 := 59) (ls1 := [some (aR 0 0), some (aI x1), some (aI x2), none]) (st1 := [aI x2, aI (4 : Int32), aR 0 0]) (σ1 := q11) (P := []) rfl trivial ?_
          obtain ⟨q12, hq12, hm⟩ := obind_eq hm
          refine XW.callV B (M := M_X11_strainsAs) (t := 0) (j := 0) (cn := 1) (as := [aI (4 : Int32), aI x2]) (hrec_1 (4 : Int32) x2 q11 hq12) (Nat.lt_succ_self _) wV_X11_strainsAs wN_X11_strainsAs lk_X11_326 rfl rfl rfl (by decide) rfl (Nat.le_of_ble_eq_true rfl) (by decide +kernel) ?_
          refine XW.bk B [(62, .istore_n 3), (63, .iload_n 3), (64, .aload_n 0), (65, .aload_n 0), (66, .getfield 329), (69, .iconst 2)] (by decide +kernel) (pc1 := 70) (ls1 := [some (aR 0 0), some (aI x1), some (aI x2), some (aI q12.1)]) (st1 := [aI (2 : Int32), aI (q12.2.1 0 0 38), aR 0 0, aI q12.1]) (σ1 := q12.2) (P := []) rfl trivial ?_
          obtain ⟨q13, hq13, hm⟩ := obind_eq hm
          refine XW.callV B (M := M_X11_leansAs) (t := 0) (j := 0) (cn := 1) (as := [aI (q12.2.1 0 0 38), aI (2 : Int32)]) (hrec_2 (q12.2.1 0 0 38) (2 : Int32) q12.2 hq13) (Nat.lt_succ_self _) wV_X11_leansAs wN_X11_leansAs lk_X11_332 rfl rfl rfl (by decide) rfl (Nat.le_of_ble_eq_true rfl) (by decide +kernel) ?_
          refine XW.bk B [(73, .iadd)] (by decide +kernel) (pc1 := 74) (ls1 := [some (aR 0 0), some (aI x1), some (aI x2), some (aI q12.1)]) (st1 := [aI (q12.1 + q13.1)]) (σ1 := q13.2) (P := []) rfl trivial ?_
          obtain ⟨rfl, rfl⟩ := Prod.mk.inj (Option.some.inj hm)
          exact XW.iret B q (by decide +kernel)
        · rw [if_neg h10] at hm
          refine XW.bk B [(75, .aload_n 0), (76, .bipush 10)] (by decide +kernel) (pc1 := 78) (ls1 := [some (aR 0 0), some (aI x1), some (aI x2), none]) (st1 := [aI (10 : Int32), aR 0 0]) (σ1 := σ) (P := []) rfl trivial ?_
          obtain ⟨q14, hq14, hm⟩ := obind_eq hm
          refine XW.callV B (M := M_X11_begins) (t := 0) (j := 0) (cn := 1) (as := [aI (10 : Int32)]) (c_X11_begins (10 : Int32) σ hq14) (by omega) wV_X11_begins wN_X11_begins lk_X11_317 rfl rfl rfl (by decide) rfl (Nat.le_of_ble_eq_true rfl) (by decide +kernel) ?_
          refine XW.bk B [(81, .aload_n 0), (82, .aload_n 0), (83, .getfield 329), (86, .iload_n 2)] (by decide +kernel) (pc1 := 87) (ls1 := [some (aR 0 0), some (aI x1), some (aI x2), none]) (st1 := [aI x2, aI (q14.1 0 0 38), aR 0 0]) (σ1 := q14) (P := []) rfl trivial ?_
          obtain ⟨q15, hq15, hm⟩ := obind_eq hm
          refine XW.callV B (M := M_X11_goesAs) (t := 0) (j := 0) (cn := 1) (as := [aI (q14.1 0 0 38), aI x2]) (hrec_0 (q14.1 0 0 38) x2 q14 hq15) (Nat.lt_succ_self _) wV_X11_goesAs wN_X11_goesAs lk_X11_320 rfl rfl rfl (by decide) rfl (Nat.le_of_ble_eq_true rfl) (by decide +kernel) ?_
          refine XW.bk B [(90, .iconst 2), (91, .imul)] (by decide +kernel) (pc1 := 92) (ls1 := [some (aR 0 0), some (aI x1), some (aI x2), none]) (st1 := [aI (q15.1 * (2 : Int32))]) (σ1 := q15.2) (P := []) rfl trivial ?_
          obtain ⟨rfl, rfl⟩ := Prod.mk.inj (Option.some.inj hm)
          exact XW.iret B q (by decide +kernel)
def m_X11_leansAs (rec : Nat → Int32 → Int32 → SS → Option (Int32 × SS)) (x1 : Int32) (x2 : Int32) (σ : SS) : Option (Int32 × SS) :=
  if x1 = (3 : Int32) then
    Option.bind (m_X11_begins (40 : Int32) σ) (fun q2 =>
    Option.bind (rec 2 (2 : Int32) x2 q2) (fun q3 =>
    some ((q3.1 * (3 : Int32)), q3.2)))
  else
  if x1 = (5 : Int32) then
    Option.bind (m_X11_begins (40 : Int32) σ) (fun q5 =>
    Option.bind (rec 2 (2 : Int32) x2 q5) (fun q6 =>
    some ((q6.1 * (3 : Int32)), q6.2)))
  else
  if x1 = (4 : Int32) then
    Option.bind (m_X11_begins (50 : Int32) σ) (fun q8 =>
    Option.bind (rec 2 (1 : Int32) x2 q8) (fun q9 =>
    Option.bind (rec 0 (q9.2.1 0 0 38) (2 : Int32) q9.2) (fun q10 =>
    some ((q9.1 - q10.1), q10.2))))
  else
  if x1 = (7 : Int32) then
    Option.bind (m_X11_begins (50 : Int32) σ) (fun q12 =>
    Option.bind (rec 2 (1 : Int32) x2 q12) (fun q13 =>
    Option.bind (rec 0 (q13.2.1 0 0 38) (2 : Int32) q13.2) (fun q14 =>
    some ((q13.1 - q14.1), q14.2))))
  else
  Option.bind (m_X11_begins (11 : Int32) σ) (fun q15 =>
  some ((x2 ^^^ (q15.1 0 0 39)), q15))
set_option maxRecDepth 100000 in
set_option maxHeartbeats 4000000 in
theorem c_X11_leansAs (rec : Nat → Int32 → Int32 → SS → Option (Int32 × SS)) (dr : Nat) (hdr : 2 ≤ dr) (hrec_0 : ∀ (x1 : Int32) (x2 : Int32) (σ : SS) {r : Int32} {σ' : SS}, rec 0 x1 x2 σ = some (r, σ') → XM LM dr M_X11_goesAs [aR 0 0, aI x1, aI x2] σ (some (aI r)) σ') (hrec_1 : ∀ (x1 : Int32) (x2 : Int32) (σ : SS) {r : Int32} {σ' : SS}, rec 1 x1 x2 σ = some (r, σ') → XM LM dr M_X11_strainsAs [aR 0 0, aI x1, aI x2] σ (some (aI r)) σ') (hrec_2 : ∀ (x1 : Int32) (x2 : Int32) (σ : SS) {r : Int32} {σ' : SS}, rec 2 x1 x2 σ = some (r, σ') → XM LM dr M_X11_leansAs [aR 0 0, aI x1, aI x2] σ (some (aI r)) σ') (hrec_3 : ∀ (x1 : Int32) (x2 : Int32) (σ : SS) {r : Int32} {σ' : SS}, rec 3 x1 x2 σ = some (r, σ') → XM LM dr M_X11_tellsAs [aR 0 0, aI x1, aI x2] σ (some (aI r)) σ') (x1 : Int32) (x2 : Int32) (σ : SS) {r : Int32} {σ' : SS} (hm : m_X11_leansAs rec x1 x2 σ = some (r, σ')) : XM LM (dr + 1) M_X11_leansAs [aR 0 0, aI x1, aI x2] σ (some (aI r)) σ' := by
  refine XM.of (K := K11) (Nat.succ_le_succ (Nat.zero_le _)) (by decide +kernel) K11_ok (Nat.le_of_ble_eq_true rfl) (fun Γ B q => ?_)
  unfold m_X11_leansAs at hm
  refine XW.bb B [(0, .iload_n 1), (1, .iconst 3)] (by decide +kernel) (pc1 := 2) (ls1 := [some (aR 0 0), some (aI x1), some (aI x2), none]) (st1 := [aI (3 : Int32), aI x1]) (σ1 := σ) (P := []) (i := .if_icmp .eq 8) (tgt := 10) (q := x1 = (3 : Int32)) rfl trivial (by decide +kernel) rfl (by decide) (fun h1 => ?_) (fun h1 => ?_)
  · rw [if_pos h1] at hm
    refine XW.bk B [(10, .aload_n 0), (11, .bipush 40)] (by decide +kernel) (pc1 := 13) (ls1 := [some (aR 0 0), some (aI x1), some (aI x2), none]) (st1 := [aI (40 : Int32), aR 0 0]) (σ1 := σ) (P := []) rfl trivial ?_
    obtain ⟨q2, hq2, hm⟩ := obind_eq hm
    refine XW.callV B (M := M_X11_begins) (t := 0) (j := 0) (cn := 1) (as := [aI (40 : Int32)]) (c_X11_begins (40 : Int32) σ hq2) (by omega) wV_X11_begins wN_X11_begins lk_X11_317 rfl rfl rfl (by decide) rfl (Nat.le_of_ble_eq_true rfl) (by decide +kernel) ?_
    refine XW.bk B [(16, .aload_n 0), (17, .iconst 2), (18, .iload_n 2)] (by decide +kernel) (pc1 := 19) (ls1 := [some (aR 0 0), some (aI x1), some (aI x2), none]) (st1 := [aI x2, aI (2 : Int32), aR 0 0]) (σ1 := q2) (P := []) rfl trivial ?_
    obtain ⟨q3, hq3, hm⟩ := obind_eq hm
    refine XW.callV B (M := M_X11_leansAs) (t := 0) (j := 0) (cn := 1) (as := [aI (2 : Int32), aI x2]) (hrec_2 (2 : Int32) x2 q2 hq3) (Nat.lt_succ_self _) wV_X11_leansAs wN_X11_leansAs lk_X11_332 rfl rfl rfl (by decide) rfl (Nat.le_of_ble_eq_true rfl) (by decide +kernel) ?_
    refine XW.bk B [(22, .iconst 3), (23, .imul)] (by decide +kernel) (pc1 := 24) (ls1 := [some (aR 0 0), some (aI x1), some (aI x2), none]) (st1 := [aI (q3.1 * (3 : Int32))]) (σ1 := q3.2) (P := []) rfl trivial ?_
    obtain ⟨rfl, rfl⟩ := Prod.mk.inj (Option.some.inj hm)
    exact XW.iret B q (by decide +kernel)
  · rw [if_neg h1] at hm
    refine XW.bn B [(5, .iload_n 1), (6, .iconst 5)] (by decide +kernel) (pc1 := 7) (ls1 := [some (aR 0 0), some (aI x1), some (aI x2), none]) (st1 := [aI (5 : Int32), aI x1]) (σ1 := σ) (P := []) (i := .if_icmp .ne 18) (tgt := 25) (q := x1 = (5 : Int32)) rfl trivial (by decide +kernel) rfl (by decide) (fun h4 => ?_) (fun h4 => ?_)
    · rw [if_pos h4] at hm
      refine XW.bk B [(10, .aload_n 0), (11, .bipush 40)] (by decide +kernel) (pc1 := 13) (ls1 := [some (aR 0 0), some (aI x1), some (aI x2), none]) (st1 := [aI (40 : Int32), aR 0 0]) (σ1 := σ) (P := []) rfl trivial ?_
      obtain ⟨q5, hq5, hm⟩ := obind_eq hm
      refine XW.callV B (M := M_X11_begins) (t := 0) (j := 0) (cn := 1) (as := [aI (40 : Int32)]) (c_X11_begins (40 : Int32) σ hq5) (by omega) wV_X11_begins wN_X11_begins lk_X11_317 rfl rfl rfl (by decide) rfl (Nat.le_of_ble_eq_true rfl) (by decide +kernel) ?_
      refine XW.bk B [(16, .aload_n 0), (17, .iconst 2), (18, .iload_n 2)] (by decide +kernel) (pc1 := 19) (ls1 := [some (aR 0 0), some (aI x1), some (aI x2), none]) (st1 := [aI x2, aI (2 : Int32), aR 0 0]) (σ1 := q5) (P := []) rfl trivial ?_
      obtain ⟨q6, hq6, hm⟩ := obind_eq hm
      refine XW.callV B (M := M_X11_leansAs) (t := 0) (j := 0) (cn := 1) (as := [aI (2 : Int32), aI x2]) (hrec_2 (2 : Int32) x2 q5 hq6) (Nat.lt_succ_self _) wV_X11_leansAs wN_X11_leansAs lk_X11_332 rfl rfl rfl (by decide) rfl (Nat.le_of_ble_eq_true rfl) (by decide +kernel) ?_
      refine XW.bk B [(22, .iconst 3), (23, .imul)] (by decide +kernel) (pc1 := 24) (ls1 := [some (aR 0 0), some (aI x1), some (aI x2), none]) (st1 := [aI (q6.1 * (3 : Int32))]) (σ1 := q6.2) (P := []) rfl trivial ?_
      obtain ⟨rfl, rfl⟩ := Prod.mk.inj (Option.some.inj hm)
      exact XW.iret B q (by decide +kernel)
    · rw [if_neg h4] at hm
      refine XW.bb B [(25, .iload_n 1), (26, .iconst 4)] (by decide +kernel) (pc1 := 27) (ls1 := [some (aR 0 0), some (aI x1), some (aI x2), none]) (st1 := [aI (4 : Int32), aI x1]) (σ1 := σ) (P := []) (i := .if_icmp .eq 9) (tgt := 36) (q := x1 = (4 : Int32)) rfl trivial (by decide +kernel) rfl (by decide) (fun h7 => ?_) (fun h7 => ?_)
      · rw [if_pos h7] at hm
        refine XW.bk B [(36, .aload_n 0), (37, .bipush 50)] (by decide +kernel) (pc1 := 39) (ls1 := [some (aR 0 0), some (aI x1), some (aI x2), none]) (st1 := [aI (50 : Int32), aR 0 0]) (σ1 := σ) (P := []) rfl trivial ?_
        obtain ⟨q8, hq8, hm⟩ := obind_eq hm
        refine XW.callV B (M := M_X11_begins) (t := 0) (j := 0) (cn := 1) (as := [aI (50 : Int32)]) (c_X11_begins (50 : Int32) σ hq8) (by omega) wV_X11_begins wN_X11_begins lk_X11_317 rfl rfl rfl (by decide) rfl (Nat.le_of_ble_eq_true rfl) (by decide +kernel) ?_
        refine XW.bk B [(42, .aload_n 0), (43, .iconst 1), (44, .iload_n 2)] (by decide +kernel) (pc1 := 45) (ls1 := [some (aR 0 0), some (aI x1), some (aI x2), none]) (st1 := [aI x2, aI (1 : Int32), aR 0 0]) (σ1 := q8) (P := []) rfl trivial ?_
        obtain ⟨q9, hq9, hm⟩ := obind_eq hm
        refine XW.callV B (M := M_X11_leansAs) (t := 0) (j := 0) (cn := 1) (as := [aI (1 : Int32), aI x2]) (hrec_2 (1 : Int32) x2 q8 hq9) (Nat.lt_succ_self _) wV_X11_leansAs wN_X11_leansAs lk_X11_332 rfl rfl rfl (by decide) rfl (Nat.le_of_ble_eq_true rfl) (by decide +kernel) ?_
        refine XW.bk B [(48, .istore_n 3), (49, .iload_n 3), (50, .aload_n 0), (51, .aload_n 0), (52, .getfield 329), (55, .iconst 2)] (by decide +kernel) (pc1 := 56) (ls1 := [some (aR 0 0), some (aI x1), some (aI x2), some (aI q9.1)]) (st1 := [aI (2 : Int32), aI (q9.2.1 0 0 38), aR 0 0, aI q9.1]) (σ1 := q9.2) (P := []) rfl trivial ?_
        obtain ⟨q10, hq10, hm⟩ := obind_eq hm
        refine XW.callV B (M := M_X11_goesAs) (t := 0) (j := 0) (cn := 1) (as := [aI (q9.2.1 0 0 38), aI (2 : Int32)]) (hrec_0 (q9.2.1 0 0 38) (2 : Int32) q9.2 hq10) (Nat.lt_succ_self _) wV_X11_goesAs wN_X11_goesAs lk_X11_320 rfl rfl rfl (by decide) rfl (Nat.le_of_ble_eq_true rfl) (by decide +kernel) ?_
        refine XW.bk B [(59, .isub)] (by decide +kernel) (pc1 := 60) (ls1 := [some (aR 0 0), some (aI x1), some (aI x2), some (aI q9.1)]) (st1 := [aI (q9.1 - q10.1)]) (σ1 := q10.2) (P := []) rfl trivial ?_
        obtain ⟨rfl, rfl⟩ := Prod.mk.inj (Option.some.inj hm)
        exact XW.iret B q (by decide +kernel)
      · rw [if_neg h7] at hm
        refine XW.bn B [(30, .iload_n 1), (31, .bipush 7)] (by decide +kernel) (pc1 := 33) (ls1 := [some (aR 0 0), some (aI x1), some (aI x2), none]) (st1 := [aI (7 : Int32), aI x1]) (σ1 := σ) (P := []) (i := .if_icmp .ne 28) (tgt := 61) (q := x1 = (7 : Int32)) rfl trivial (by decide +kernel) rfl (by decide) (fun h11 => ?_) (fun h11 => ?_)
        · rw [if_pos h11] at hm
          refine XW.bk B [(36, .aload_n 0), (37, .bipush 50)] (by decide +kernel) (pc1 := 39) (ls1 := [some (aR 0 0), some (aI x1), some (aI x2), none]) (st1 := [aI (50 : Int32), aR 0 0]) (σ1 := σ) (P := []) rfl trivial ?_
          obtain ⟨q12, hq12, hm⟩ := obind_eq hm
          refine XW.callV B (M := M_X11_begins) (t := 0) (j := 0) (cn := 1) (as := [aI (50 : Int32)]) (c_X11_begins (50 : Int32) σ hq12) (by omega) wV_X11_begins wN_X11_begins lk_X11_317 rfl rfl rfl (by decide) rfl (Nat.le_of_ble_eq_true rfl) (by decide +kernel) ?_
          refine XW.bk B [(42, .aload_n 0), (43, .iconst 1), (44, .iload_n 2)] (by decide +kernel) (pc1 := 45) (ls1 := [some (aR 0 0), some (aI x1), some (aI x2), none]) (st1 := [aI x2, aI (1 : Int32), aR 0 0]) (σ1 := q12) (P := []) rfl trivial ?_
          obtain ⟨q13, hq13, hm⟩ := obind_eq hm
          refine XW.callV B (M := M_X11_leansAs) (t := 0) (j := 0) (cn := 1) (as := [aI (1 : Int32), aI x2]) (hrec_2 (1 : Int32) x2 q12 hq13) (Nat.lt_succ_self _) wV_X11_leansAs wN_X11_leansAs lk_X11_332 rfl rfl rfl (by decide) rfl (Nat.le_of_ble_eq_true rfl) (by decide +kernel) ?_
          refine XW.bk B [(48, .istore_n 3), (49, .iload_n 3), (50, .aload_n 0), (51, .aload_n 0), (52, .getfield 329), (55, .iconst 2)] (by decide +kernel) (pc1 := 56) (ls1 := [some (aR 0 0), some (aI x1), some (aI x2), some (aI q13.1)]) (st1 := [aI (2 : Int32), aI (q13.2.1 0 0 38), aR 0 0, aI q13.1]) (σ1 := q13.2) (P := []) rfl trivial ?_
          obtain ⟨q14, hq14, hm⟩ := obind_eq hm
          refine XW.callV B (M := M_X11_goesAs) (t := 0) (j := 0) (cn := 1) (as := [aI (q13.2.1 0 0 38), aI (2 : Int32)]) (hrec_0 (q13.2.1 0 0 38) (2 : Int32) q13.2 hq14) (Nat.lt_succ_self _) wV_X11_goesAs wN_X11_goesAs lk_X11_320 rfl rfl rfl (by decide) rfl (Nat.le_of_ble_eq_true rfl) (by decide +kernel) ?_
          refine XW.bk B [(59, .isub)] (by decide +kernel) (pc1 := 60) (ls1 := [some (aR 0 0), some (aI x1), some (aI x2), some (aI q13.1)]) (st1 := [aI (q13.1 - q14.1)]) (σ1 := q14.2) (P := []) rfl trivial ?_
          obtain ⟨rfl, rfl⟩ := Prod.mk.inj (Option.some.inj hm)
          exact XW.iret B q (by decide +kernel)
        · rw [if_neg h11] at hm
          refine XW.bk B [(61, .aload_n 0), (62, .bipush 11)] (by decide +kernel) (pc1 := 64) (ls1 := [some (aR 0 0), some (aI x1), some (aI x2), none]) (st1 := [aI (11 : Int32), aR 0 0]) (σ1 := σ) (P := []) rfl trivial ?_
          obtain ⟨q15, hq15, hm⟩ := obind_eq hm
          refine XW.callV B (M := M_X11_begins) (t := 0) (j := 0) (cn := 1) (as := [aI (11 : Int32)]) (c_X11_begins (11 : Int32) σ hq15) (by omega) wV_X11_begins wN_X11_begins lk_X11_317 rfl rfl rfl (by decide) rfl (Nat.le_of_ble_eq_true rfl) (by decide +kernel) ?_
          refine XW.bk B [(67, .iload_n 2), (68, .aload_n 0), (69, .getfield 323), (72, .ixor)] (by decide +kernel) (pc1 := 73) (ls1 := [some (aR 0 0), some (aI x1), some (aI x2), none]) (st1 := [aI (x2 ^^^ (q15.1 0 0 39))]) (σ1 := q15) (P := []) rfl trivial ?_
          obtain ⟨rfl, rfl⟩ := Prod.mk.inj (Option.some.inj hm)
          exact XW.iret B q (by decide +kernel)
def m_X11_tellsAs (rec : Nat → Int32 → Int32 → SS → Option (Int32 × SS)) (x1 : Int32) (x2 : Int32) (σ : SS) : Option (Int32 × SS) :=
  if x1 = (5 : Int32) then
    Option.bind (m_X11_begins (60 : Int32) σ) (fun q2 =>
    Option.bind (rec 3 (3 : Int32) x2 q2) (fun q3 =>
    some ((q3.1 ^^^ (5 : Int32)), q3.2)))
  else
  if x1 = (7 : Int32) then
    Option.bind (m_X11_begins (81 : Int32) σ) (fun q5 =>
    Option.bind (rec 3 (4 : Int32) x2 q5) (fun q6 =>
    some ((q6.1 - (1 : Int32)), q6.2)))
  else
  Option.bind (m_X11_begins (2 : Int32) σ) (fun q7 =>
  Option.bind (rec 1 (q7.1 0 0 38) x2 q7) (fun q8 =>
  Option.bind (rec 2 (q8.2.1 0 0 38) (1 : Int32) q8.2) (fun q9 =>
  some ((q8.1 - q9.1), q9.2))))
set_option maxRecDepth 100000 in
set_option maxHeartbeats 4000000 in
theorem c_X11_tellsAs (rec : Nat → Int32 → Int32 → SS → Option (Int32 × SS)) (dr : Nat) (hdr : 2 ≤ dr) (hrec_0 : ∀ (x1 : Int32) (x2 : Int32) (σ : SS) {r : Int32} {σ' : SS}, rec 0 x1 x2 σ = some (r, σ') → XM LM dr M_X11_goesAs [aR 0 0, aI x1, aI x2] σ (some (aI r)) σ') (hrec_1 : ∀ (x1 : Int32) (x2 : Int32) (σ : SS) {r : Int32} {σ' : SS}, rec 1 x1 x2 σ = some (r, σ') → XM LM dr M_X11_strainsAs [aR 0 0, aI x1, aI x2] σ (some (aI r)) σ') (hrec_2 : ∀ (x1 : Int32) (x2 : Int32) (σ : SS) {r : Int32} {σ' : SS}, rec 2 x1 x2 σ = some (r, σ') → XM LM dr M_X11_leansAs [aR 0 0, aI x1, aI x2] σ (some (aI r)) σ') (hrec_3 : ∀ (x1 : Int32) (x2 : Int32) (σ : SS) {r : Int32} {σ' : SS}, rec 3 x1 x2 σ = some (r, σ') → XM LM dr M_X11_tellsAs [aR 0 0, aI x1, aI x2] σ (some (aI r)) σ') (x1 : Int32) (x2 : Int32) (σ : SS) {r : Int32} {σ' : SS} (hm : m_X11_tellsAs rec x1 x2 σ = some (r, σ')) : XM LM (dr + 1) M_X11_tellsAs [aR 0 0, aI x1, aI x2] σ (some (aI r)) σ' := by
  refine XM.of (K := K11) (Nat.succ_le_succ (Nat.zero_le _)) (by decide +kernel) K11_ok (Nat.le_of_ble_eq_true rfl) (fun Γ B q => ?_)
  unfold m_X11_tellsAs at hm
  refine XW.bn B [(0, .iload_n 1), (1, .iconst 5)] (by decide +kernel) (pc1 := 2) (ls1 := [some (aR 0 0), some (aI x1), some (aI x2), none]) (st1 := [aI (5 : Int32), aI x1]) (σ1 := σ) (P := []) (i := .if_icmp .ne 18) (tgt := 20) (q := x1 = (5 : Int32)) rfl trivial (by decide +kernel) rfl (by decide) (fun h1 => ?_) (fun h1 => ?_)
  · rw [if_pos h1] at hm
    refine XW.bk B [(5, .aload_n 0), (6, .bipush 60)] (by decide +kernel) (pc1 := 8) (ls1 := [some (aR 0 0), some (aI x1), some (aI x2), none]) (st1 := [aI (60 : Int32), aR 0 0]) (σ1 := σ) (P := []) rfl trivial ?_
    obtain ⟨q2, hq2, hm⟩ := obind_eq hm
    refine XW.callV B (M := M_X11_begins) (t := 0) (j := 0) (cn := 1) (as := [aI (60 : Int32)]) (c_X11_begins (60 : Int32) σ hq2) (by omega) wV_X11_begins wN_X11_begins lk_X11_317 rfl rfl rfl (by decide) rfl (Nat.le_of_ble_eq_true rfl) (by decide +kernel) ?_
    refine XW.bk B [(11, .aload_n 0), (12, .iconst 3), (13, .iload_n 2)] (by decide +kernel) (pc1 := 14) (ls1 := [some (aR 0 0), some (aI x1), some (aI x2), none]) (st1 := [aI x2, aI (3 : Int32), aR 0 0]) (σ1 := q2) (P := []) rfl trivial ?_
    obtain ⟨q3, hq3, hm⟩ := obind_eq hm
    refine XW.callV B (M := M_X11_tellsAs) (t := 0) (j := 0) (cn := 1) (as := [aI (3 : Int32), aI x2]) (hrec_3 (3 : Int32) x2 q2 hq3) (Nat.lt_succ_self _) wV_X11_tellsAs wN_X11_tellsAs lk_X11_335 rfl rfl rfl (by decide) rfl (Nat.le_of_ble_eq_true rfl) (by decide +kernel) ?_
    refine XW.bk B [(17, .iconst 5), (18, .ixor)] (by decide +kernel) (pc1 := 19) (ls1 := [some (aR 0 0), some (aI x1), some (aI x2), none]) (st1 := [aI (q3.1 ^^^ (5 : Int32))]) (σ1 := q3.2) (P := []) rfl trivial ?_
    obtain ⟨rfl, rfl⟩ := Prod.mk.inj (Option.some.inj hm)
    exact XW.iret B q (by decide +kernel)
  · rw [if_neg h1] at hm
    refine XW.bn B [(20, .iload_n 1), (21, .bipush 7)] (by decide +kernel) (pc1 := 23) (ls1 := [some (aR 0 0), some (aI x1), some (aI x2), none]) (st1 := [aI (7 : Int32), aI x1]) (σ1 := σ) (P := []) (i := .if_icmp .ne 18) (tgt := 41) (q := x1 = (7 : Int32)) rfl trivial (by decide +kernel) rfl (by decide) (fun h4 => ?_) (fun h4 => ?_)
    · rw [if_pos h4] at hm
      refine XW.bk B [(26, .aload_n 0), (27, .bipush 81)] (by decide +kernel) (pc1 := 29) (ls1 := [some (aR 0 0), some (aI x1), some (aI x2), none]) (st1 := [aI (81 : Int32), aR 0 0]) (σ1 := σ) (P := []) rfl trivial ?_
      obtain ⟨q5, hq5, hm⟩ := obind_eq hm
      refine XW.callV B (M := M_X11_begins) (t := 0) (j := 0) (cn := 1) (as := [aI (81 : Int32)]) (c_X11_begins (81 : Int32) σ hq5) (by omega) wV_X11_begins wN_X11_begins lk_X11_317 rfl rfl rfl (by decide) rfl (Nat.le_of_ble_eq_true rfl) (by decide +kernel) ?_
      refine XW.bk B [(32, .aload_n 0), (33, .iconst 4), (34, .iload_n 2)] (by decide +kernel) (pc1 := 35) (ls1 := [some (aR 0 0), some (aI x1), some (aI x2), none]) (st1 := [aI x2, aI (4 : Int32), aR 0 0]) (σ1 := q5) (P := []) rfl trivial ?_
      obtain ⟨q6, hq6, hm⟩ := obind_eq hm
      refine XW.callV B (M := M_X11_tellsAs) (t := 0) (j := 0) (cn := 1) (as := [aI (4 : Int32), aI x2]) (hrec_3 (4 : Int32) x2 q5 hq6) (Nat.lt_succ_self _) wV_X11_tellsAs wN_X11_tellsAs lk_X11_335 rfl rfl rfl (by decide) rfl (Nat.le_of_ble_eq_true rfl) (by decide +kernel) ?_
      refine XW.bk B [(38, .iconst 1), (39, .isub)] (by decide +kernel) (pc1 := 40) (ls1 := [some (aR 0 0), some (aI x1), some (aI x2), none]) (st1 := [aI (q6.1 - (1 : Int32))]) (σ1 := q6.2) (P := []) rfl trivial ?_
      obtain ⟨rfl, rfl⟩ := Prod.mk.inj (Option.some.inj hm)
      exact XW.iret B q (by decide +kernel)
    · rw [if_neg h4] at hm
      refine XW.bk B [(41, .aload_n 0), (42, .iconst 2)] (by decide +kernel) (pc1 := 43) (ls1 := [some (aR 0 0), some (aI x1), some (aI x2), none]) (st1 := [aI (2 : Int32), aR 0 0]) (σ1 := σ) (P := []) rfl trivial ?_
      obtain ⟨q7, hq7, hm⟩ := obind_eq hm
      refine XW.callV B (M := M_X11_begins) (t := 0) (j := 0) (cn := 1) (as := [aI (2 : Int32)]) (c_X11_begins (2 : Int32) σ hq7) (by omega) wV_X11_begins wN_X11_begins lk_X11_317 rfl rfl rfl (by decide) rfl (Nat.le_of_ble_eq_true rfl) (by decide +kernel) ?_
      refine XW.bk B [(46, .aload_n 0), (47, .aload_n 0), (48, .getfield 329), (51, .iload_n 2)] (by decide +kernel) (pc1 := 52) (ls1 := [some (aR 0 0), some (aI x1), some (aI x2), none]) (st1 := [aI x2, aI (q7.1 0 0 38), aR 0 0]) (σ1 := q7) (P := []) rfl trivial ?_
      obtain ⟨q8, hq8, hm⟩ := obind_eq hm
      refine XW.callV B (M := M_X11_strainsAs) (t := 0) (j := 0) (cn := 1) (as := [aI (q7.1 0 0 38), aI x2]) (hrec_1 (q7.1 0 0 38) x2 q7 hq8) (Nat.lt_succ_self _) wV_X11_strainsAs wN_X11_strainsAs lk_X11_326 rfl rfl rfl (by decide) rfl (Nat.le_of_ble_eq_true rfl) (by decide +kernel) ?_
      refine XW.bk B [(55, .istore_n 3), (56, .iload_n 3), (57, .aload_n 0), (58, .aload_n 0), (59, .getfield 329), (62, .iconst 1)] (by decide +kernel) (pc1 := 63) (ls1 := [some (aR 0 0), some (aI x1), some (aI x2), some (aI q8.1)]) (st1 := [aI (1 : Int32), aI (q8.2.1 0 0 38), aR 0 0, aI q8.1]) (σ1 := q8.2) (P := []) rfl trivial ?_
      obtain ⟨q9, hq9, hm⟩ := obind_eq hm
      refine XW.callV B (M := M_X11_leansAs) (t := 0) (j := 0) (cn := 1) (as := [aI (q8.2.1 0 0 38), aI (1 : Int32)]) (hrec_2 (q8.2.1 0 0 38) (1 : Int32) q8.2 hq9) (Nat.lt_succ_self _) wV_X11_leansAs wN_X11_leansAs lk_X11_332 rfl rfl rfl (by decide) rfl (Nat.le_of_ble_eq_true rfl) (by decide +kernel) ?_
      refine XW.bk B [(66, .isub)] (by decide +kernel) (pc1 := 67) (ls1 := [some (aR 0 0), some (aI x1), some (aI x2), some (aI q8.1)]) (st1 := [aI (q8.1 - q9.1)]) (σ1 := q9.2) (P := []) rfl trivial ?_
      obtain ⟨rfl, rfl⟩ := Prod.mk.inj (Option.some.inj hm)
      exact XW.iret B q (by decide +kernel)
def m_GAct : Nat → Nat → Int32 → Int32 → SS → Option (Int32 × SS)
  | 0, _, _, _, _ => none
  | n + 1, k, x1, x2, σ =>
    if k = 0 then m_X11_goesAs (m_GAct n) x1 x2 σ else
    if k = 1 then m_X11_strainsAs (m_GAct n) x1 x2 σ else
    if k = 2 then m_X11_leansAs (m_GAct n) x1 x2 σ else
    m_X11_tellsAs (m_GAct n) x1 x2 σ
set_option maxRecDepth 100000 in
set_option maxHeartbeats 4000000 in
theorem c_GAct : ∀ n : Nat, (∀ (x1 : Int32) (x2 : Int32) (σ : SS) {r : Int32} {σ' : SS}, m_GAct n 0 x1 x2 σ = some (r, σ') → XM LM (2 + n) M_X11_goesAs [aR 0 0, aI x1, aI x2] σ (some (aI r)) σ') ∧ (∀ (x1 : Int32) (x2 : Int32) (σ : SS) {r : Int32} {σ' : SS}, m_GAct n 1 x1 x2 σ = some (r, σ') → XM LM (2 + n) M_X11_strainsAs [aR 0 0, aI x1, aI x2] σ (some (aI r)) σ') ∧ (∀ (x1 : Int32) (x2 : Int32) (σ : SS) {r : Int32} {σ' : SS}, m_GAct n 2 x1 x2 σ = some (r, σ') → XM LM (2 + n) M_X11_leansAs [aR 0 0, aI x1, aI x2] σ (some (aI r)) σ') ∧ (∀ (x1 : Int32) (x2 : Int32) (σ : SS) {r : Int32} {σ' : SS}, m_GAct n 3 x1 x2 σ = some (r, σ') → XM LM (2 + n) M_X11_tellsAs [aR 0 0, aI x1, aI x2] σ (some (aI r)) σ') := by
  intro n
  induction n with
  | zero => exact ⟨fun _ _ _ _ _ hm => (by cases hm), fun _ _ _ _ _ hm => (by cases hm), fun _ _ _ _ _ hm => (by cases hm), fun _ _ _ _ _ hm => (by cases hm)⟩
  | succ n ih =>
    obtain ⟨i0, i1, i2, i3⟩ := ih
    refine ⟨?_, ?_, ?_, ?_⟩
    · intro x1 x2 σ r σ' hm
      rw [m_GAct] at hm
      rw [if_pos rfl] at hm
      exact c_X11_goesAs (m_GAct n) (2 + n) (by omega) i0 i1 i2 i3 x1 x2 σ hm
    · intro x1 x2 σ r σ' hm
      rw [m_GAct] at hm
      rw [if_neg (by decide)] at hm
      rw [if_pos rfl] at hm
      exact c_X11_strainsAs (m_GAct n) (2 + n) (by omega) i0 i1 i2 i3 x1 x2 σ hm
    · intro x1 x2 σ r σ' hm
      rw [m_GAct] at hm
      rw [if_neg (by decide)] at hm
      rw [if_neg (by decide)] at hm
      rw [if_pos rfl] at hm
      exact c_X11_leansAs (m_GAct n) (2 + n) (by omega) i0 i1 i2 i3 x1 x2 σ hm
    · intro x1 x2 σ r σ' hm
      rw [m_GAct] at hm
      rw [if_neg (by decide)] at hm
      rw [if_neg (by decide)] at hm
      rw [if_neg (by decide)] at hm
      exact c_X11_tellsAs (m_GAct n) (2 + n) (by omega) i0 i1 i2 i3 x1 x2 σ hm
