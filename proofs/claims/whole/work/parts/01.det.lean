def nd_2 (x00 x01 x10 x11 : Int) : Int := x00 * x11 - x01 * x10
def nd_3 (x00 x01 x02 x10 x11 x12 x20 x21 x22 : Int) : Int := x00 * nd_2 x11 x12 x21 x22 - x01 * nd_2 x10 x12 x20 x22 + x02 * nd_2 x10 x11 x20 x21
def nd_4 (x00 x01 x02 x03 x10 x11 x12 x13 x20 x21 x22 x23 x30 x31 x32 x33 : Int) : Int := x00 * nd_3 x11 x12 x13 x21 x22 x23 x31 x32 x33 - x01 * nd_3 x10 x12 x13 x20 x22 x23 x30 x32 x33 + x02 * nd_3 x10 x11 x13 x20 x21 x23 x30 x31 x33 - x03 * nd_3 x10 x11 x12 x20 x21 x22 x30 x31 x32
def nd_5 (x00 x01 x02 x03 x04 x10 x11 x12 x13 x14 x20 x21 x22 x23 x24 x30 x31 x32 x33 x34 x40 x41 x42 x43 x44 : Int) : Int := x00 * nd_4 x11 x12 x13 x14 x21 x22 x23 x24 x31 x32 x33 x34 x41 x42 x43 x44 - x01 * nd_4 x10 x12 x13 x14 x20 x22 x23 x24 x30 x32 x33 x34 x40 x42 x43 x44 + x02 * nd_4 x10 x11 x13 x14 x20 x21 x23 x24 x30 x31 x33 x34 x40 x41 x43 x44 - x03 * nd_4 x10 x11 x12 x14 x20 x21 x22 x24 x30 x31 x32 x34 x40 x41 x42 x44 + x04 * nd_4 x10 x11 x12 x13 x20 x21 x22 x23 x30 x31 x32 x33 x40 x41 x42 x43
theorem nd_sy0 (x00 x01 x10 x11 : Int) : x00 * x11 - x10 * x01 = 1 * (nd_2 x00 x01 x10 x11) := by
  simp only [nd_2]
  grind
theorem nd_sy1 (x00 x01 x02 x10 x11 x12 x20 x21 x22 : Int) : (nd_2 x00 x01 x10 x11) * (nd_2 x00 x02 x20 x22) - (nd_2 x00 x01 x20 x21) * (nd_2 x00 x02 x10 x12) = x00 * (nd_3 x00 x01 x02 x10 x11 x12 x20 x21 x22) := by
  simp only [nd_3, nd_2]
  grind
theorem nd_sy2 (x00 x01 x02 x03 x10 x11 x12 x13 x20 x21 x22 x23 x30 x31 x32 x33 : Int) : (nd_3 x00 x01 x02 x10 x11 x12 x20 x21 x22) * (nd_3 x00 x01 x03 x10 x11 x13 x30 x31 x33) - (nd_3 x00 x01 x02 x10 x11 x12 x30 x31 x32) * (nd_3 x00 x01 x03 x10 x11 x13 x20 x21 x23) = (nd_2 x00 x01 x10 x11) * (nd_4 x00 x01 x02 x03 x10 x11 x12 x13 x20 x21 x22 x23 x30 x31 x32 x33) := by
  simp only [nd_4, nd_3, nd_2]
  grind
theorem nd_sy3 (x00 x01 x02 x03 x04 x10 x11 x12 x13 x14 x20 x21 x22 x23 x24 x30 x31 x32 x33 x34 x40 x41 x42 x43 x44 : Int) : (nd_4 x00 x01 x02 x03 x10 x11 x12 x13 x20 x21 x22 x23 x30 x31 x32 x33) * (nd_4 x00 x01 x02 x04 x10 x11 x12 x14 x20 x21 x22 x24 x40 x41 x42 x44) - (nd_4 x00 x01 x02 x03 x10 x11 x12 x13 x20 x21 x22 x23 x40 x41 x42 x43) * (nd_4 x00 x01 x02 x04 x10 x11 x12 x14 x20 x21 x22 x24 x30 x31 x32 x34) = (nd_3 x00 x01 x02 x10 x11 x12 x20 x21 x22) * (nd_5 x00 x01 x02 x03 x04 x10 x11 x12 x13 x14 x20 x21 x22 x23 x24 x30 x31 x32 x33 x34 x40 x41 x42 x43 x44) := by
  simp only [nd_5, nd_4, nd_3, nd_2]
  grind
theorem nd_tr2 (x00 x01 x10 x11 : Int) : nd_2 x00 x10 x01 x11 = nd_2 x00 x01 x10 x11 := by
  simp only [nd_2]
  grind
theorem nd_tr3 (x00 x01 x02 x10 x11 x12 x20 x21 x22 : Int) : nd_3 x00 x10 x20 x01 x11 x21 x02 x12 x22 = nd_3 x00 x01 x02 x10 x11 x12 x20 x21 x22 := by
  simp only [nd_3, nd_2]
  grind
theorem nd_tr4 (x00 x01 x02 x03 x10 x11 x12 x13 x20 x21 x22 x23 x30 x31 x32 x33 : Int) : nd_4 x00 x10 x20 x30 x01 x11 x21 x31 x02 x12 x22 x32 x03 x13 x23 x33 = nd_4 x00 x01 x02 x03 x10 x11 x12 x13 x20 x21 x22 x23 x30 x31 x32 x33 := by
  simp only [nd_4, nd_3, nd_2]
  grind
theorem nd_tr5 (x00 x01 x02 x03 x04 x10 x11 x12 x13 x14 x20 x21 x22 x23 x24 x30 x31 x32 x33 x34 x40 x41 x42 x43 x44 : Int) : nd_5 x00 x10 x20 x30 x40 x01 x11 x21 x31 x41 x02 x12 x22 x32 x42 x03 x13 x23 x33 x43 x04 x14 x24 x34 x44 = nd_5 x00 x01 x02 x03 x04 x10 x11 x12 x13 x14 x20 x21 x22 x23 x24 x30 x31 x32 x33 x34 x40 x41 x42 x43 x44 := by
  simp only [nd_5, nd_4, nd_3, nd_2]
  grind
theorem nd_sw20 (x00 x01 x10 x11 : Int) : nd_2 x11 x10 x01 x00 = nd_2 x00 x01 x10 x11 := by
  simp only [nd_2]
  grind
theorem nd_sw30 (x00 x01 x02 x10 x11 x12 x20 x21 x22 : Int) : nd_3 x11 x10 x12 x01 x00 x02 x21 x20 x22 = nd_3 x00 x01 x02 x10 x11 x12 x20 x21 x22 := by
  simp only [nd_3, nd_2]
  grind
theorem nd_sw31 (x00 x01 x02 x10 x11 x12 x20 x21 x22 : Int) : nd_3 x00 x02 x01 x20 x22 x21 x10 x12 x11 = nd_3 x00 x01 x02 x10 x11 x12 x20 x21 x22 := by
  simp only [nd_3, nd_2]
  grind
theorem nd_sw40 (x00 x01 x02 x03 x10 x11 x12 x13 x20 x21 x22 x23 x30 x31 x32 x33 : Int) : nd_4 x11 x10 x12 x13 x01 x00 x02 x03 x21 x20 x22 x23 x31 x30 x32 x33 = nd_4 x00 x01 x02 x03 x10 x11 x12 x13 x20 x21 x22 x23 x30 x31 x32 x33 := by
  simp only [nd_4, nd_3, nd_2]
  grind
theorem nd_sw41 (x00 x01 x02 x03 x10 x11 x12 x13 x20 x21 x22 x23 x30 x31 x32 x33 : Int) : nd_4 x00 x02 x01 x03 x20 x22 x21 x23 x10 x12 x11 x13 x30 x32 x31 x33 = nd_4 x00 x01 x02 x03 x10 x11 x12 x13 x20 x21 x22 x23 x30 x31 x32 x33 := by
  simp only [nd_4, nd_3, nd_2]
  grind
theorem nd_sw42 (x00 x01 x02 x03 x10 x11 x12 x13 x20 x21 x22 x23 x30 x31 x32 x33 : Int) : nd_4 x00 x01 x03 x02 x10 x11 x13 x12 x30 x31 x33 x32 x20 x21 x23 x22 = nd_4 x00 x01 x02 x03 x10 x11 x12 x13 x20 x21 x22 x23 x30 x31 x32 x33 := by
  simp only [nd_4, nd_3, nd_2]
  grind
theorem nd_sw50 (x00 x01 x02 x03 x04 x10 x11 x12 x13 x14 x20 x21 x22 x23 x24 x30 x31 x32 x33 x34 x40 x41 x42 x43 x44 : Int) : nd_5 x11 x10 x12 x13 x14 x01 x00 x02 x03 x04 x21 x20 x22 x23 x24 x31 x30 x32 x33 x34 x41 x40 x42 x43 x44 = nd_5 x00 x01 x02 x03 x04 x10 x11 x12 x13 x14 x20 x21 x22 x23 x24 x30 x31 x32 x33 x34 x40 x41 x42 x43 x44 := by
  simp only [nd_5, nd_4, nd_3, nd_2]
  grind
theorem nd_sw51 (x00 x01 x02 x03 x04 x10 x11 x12 x13 x14 x20 x21 x22 x23 x24 x30 x31 x32 x33 x34 x40 x41 x42 x43 x44 : Int) : nd_5 x00 x02 x01 x03 x04 x20 x22 x21 x23 x24 x10 x12 x11 x13 x14 x30 x32 x31 x33 x34 x40 x42 x41 x43 x44 = nd_5 x00 x01 x02 x03 x04 x10 x11 x12 x13 x14 x20 x21 x22 x23 x24 x30 x31 x32 x33 x34 x40 x41 x42 x43 x44 := by
  simp only [nd_5, nd_4, nd_3, nd_2]
  grind
theorem nd_sw52 (x00 x01 x02 x03 x04 x10 x11 x12 x13 x14 x20 x21 x22 x23 x24 x30 x31 x32 x33 x34 x40 x41 x42 x43 x44 : Int) : nd_5 x00 x01 x03 x02 x04 x10 x11 x13 x12 x14 x30 x31 x33 x32 x34 x20 x21 x23 x22 x24 x40 x41 x43 x42 x44 = nd_5 x00 x01 x02 x03 x04 x10 x11 x12 x13 x14 x20 x21 x22 x23 x24 x30 x31 x32 x33 x34 x40 x41 x42 x43 x44 := by
  simp only [nd_5, nd_4, nd_3, nd_2]
  grind
theorem nd_sw53 (x00 x01 x02 x03 x04 x10 x11 x12 x13 x14 x20 x21 x22 x23 x24 x30 x31 x32 x33 x34 x40 x41 x42 x43 x44 : Int) : nd_5 x00 x01 x02 x04 x03 x10 x11 x12 x14 x13 x20 x21 x22 x24 x23 x40 x41 x42 x44 x43 x30 x31 x32 x34 x33 = nd_5 x00 x01 x02 x03 x04 x10 x11 x12 x13 x14 x20 x21 x22 x23 x24 x30 x31 x32 x33 x34 x40 x41 x42 x43 x44 := by
  simp only [nd_5, nd_4, nd_3, nd_2]
  grind
theorem nd_li1 (w0 : Int) : w0 + (0) = w0 := by grind
theorem nd_ad1 (w0 v0 : Int) : w0 + v0 = w0 + v0 := by grind
theorem nd_sc1 (w0 t : Int) : t * w0 = t * w0 := by grind
theorem nd_li2 (x00 x01 w0 w1 y0 : Int) : nd_2 x00 x01 (w0 + (y0 * x00 + 0)) (w1 + (y0 * x01 + 0)) = nd_2 x00 x01 w0 w1 := by
  simp only [nd_2]
  grind
theorem nd_ad2 (x00 x01 w0 w1 v0 v1 : Int) : nd_2 x00 x01 (w0 + v0) (w1 + v1) = nd_2 x00 x01 w0 w1 + nd_2 x00 x01 v0 v1 := by
  simp only [nd_2]
  grind
theorem nd_sc2 (x00 x01 w0 w1 t : Int) : nd_2 x00 x01 (t * w0) (t * w1) = t * (nd_2 x00 x01 w0 w1) := by
  simp only [nd_2]
  grind
theorem nd_co2 (x00 x01 w0 w1 : Int) : nd_2 x00 x01 w0 w1 = ((-w0) * x01 + 0) + x00 * w1 := by
  simp only [nd_2]
  grind
theorem nd_li3 (x00 x01 x02 x10 x11 x12 w0 w1 w2 y0 y1 : Int) : nd_3 x00 x01 x02 x10 x11 x12 (w0 + (y0 * x00 + (y1 * x10 + 0))) (w1 + (y0 * x01 + (y1 * x11 + 0))) (w2 + (y0 * x02 + (y1 * x12 + 0))) = nd_3 x00 x01 x02 x10 x11 x12 w0 w1 w2 := by
  simp only [nd_3, nd_2]
  grind
theorem nd_ad3 (x00 x01 x02 x10 x11 x12 w0 w1 w2 v0 v1 v2 : Int) : nd_3 x00 x01 x02 x10 x11 x12 (w0 + v0) (w1 + v1) (w2 + v2) = nd_3 x00 x01 x02 x10 x11 x12 w0 w1 w2 + nd_3 x00 x01 x02 x10 x11 x12 v0 v1 v2 := by
  simp only [nd_3, nd_2]
  grind
theorem nd_sc3 (x00 x01 x02 x10 x11 x12 w0 w1 w2 t : Int) : nd_3 x00 x01 x02 x10 x11 x12 (t * w0) (t * w1) (t * w2) = t * (nd_3 x00 x01 x02 x10 x11 x12 w0 w1 w2) := by
  simp only [nd_3, nd_2]
  grind
theorem nd_co3 (x00 x01 x02 x10 x11 x12 w0 w1 w2 : Int) : nd_3 x00 x01 x02 x10 x11 x12 w0 w1 w2 = ((nd_2 x10 x11 w0 w1) * x02 + ((-(nd_2 x00 x01 w0 w1)) * x12 + 0)) + (nd_2 x00 x01 x10 x11) * w2 := by
  simp only [nd_3, nd_2]
  grind
theorem nd_li4 (x00 x01 x02 x03 x10 x11 x12 x13 x20 x21 x22 x23 w0 w1 w2 w3 y0 y1 y2 : Int) : nd_4 x00 x01 x02 x03 x10 x11 x12 x13 x20 x21 x22 x23 (w0 + (y0 * x00 + (y1 * x10 + (y2 * x20 + 0)))) (w1 + (y0 * x01 + (y1 * x11 + (y2 * x21 + 0)))) (w2 + (y0 * x02 + (y1 * x12 + (y2 * x22 + 0)))) (w3 + (y0 * x03 + (y1 * x13 + (y2 * x23 + 0)))) = nd_4 x00 x01 x02 x03 x10 x11 x12 x13 x20 x21 x22 x23 w0 w1 w2 w3 := by
  simp only [nd_4, nd_3, nd_2]
  grind
theorem nd_ad4 (x00 x01 x02 x03 x10 x11 x12 x13 x20 x21 x22 x23 w0 w1 w2 w3 v0 v1 v2 v3 : Int) : nd_4 x00 x01 x02 x03 x10 x11 x12 x13 x20 x21 x22 x23 (w0 + v0) (w1 + v1) (w2 + v2) (w3 + v3) = nd_4 x00 x01 x02 x03 x10 x11 x12 x13 x20 x21 x22 x23 w0 w1 w2 w3 + nd_4 x00 x01 x02 x03 x10 x11 x12 x13 x20 x21 x22 x23 v0 v1 v2 v3 := by
  simp only [nd_4, nd_3, nd_2]
  grind
theorem nd_sc4 (x00 x01 x02 x03 x10 x11 x12 x13 x20 x21 x22 x23 w0 w1 w2 w3 t : Int) : nd_4 x00 x01 x02 x03 x10 x11 x12 x13 x20 x21 x22 x23 (t * w0) (t * w1) (t * w2) (t * w3) = t * (nd_4 x00 x01 x02 x03 x10 x11 x12 x13 x20 x21 x22 x23 w0 w1 w2 w3) := by
  simp only [nd_4, nd_3, nd_2]
  grind
theorem nd_co4 (x00 x01 x02 x03 x10 x11 x12 x13 x20 x21 x22 x23 w0 w1 w2 w3 : Int) : nd_4 x00 x01 x02 x03 x10 x11 x12 x13 x20 x21 x22 x23 w0 w1 w2 w3 = ((-(nd_3 x10 x11 x12 x20 x21 x22 w0 w1 w2)) * x03 + ((nd_3 x00 x01 x02 x20 x21 x22 w0 w1 w2) * x13 + ((-(nd_3 x00 x01 x02 x10 x11 x12 w0 w1 w2)) * x23 + 0))) + (nd_3 x00 x01 x02 x10 x11 x12 x20 x21 x22) * w3 := by
  simp only [nd_4, nd_3, nd_2]
  grind
theorem nd_li5 (x00 x01 x02 x03 x04 x10 x11 x12 x13 x14 x20 x21 x22 x23 x24 x30 x31 x32 x33 x34 w0 w1 w2 w3 w4 y0 y1 y2 y3 : Int) : nd_5 x00 x01 x02 x03 x04 x10 x11 x12 x13 x14 x20 x21 x22 x23 x24 x30 x31 x32 x33 x34 (w0 + (y0 * x00 + (y1 * x10 + (y2 * x20 + (y3 * x30 + 0))))) (w1 + (y0 * x01 + (y1 * x11 + (y2 * x21 + (y3 * x31 + 0))))) (w2 + (y0 * x02 + (y1 * x12 + (y2 * x22 + (y3 * x32 + 0))))) (w3 + (y0 * x03 + (y1 * x13 + (y2 * x23 + (y3 * x33 + 0))))) (w4 + (y0 * x04 + (y1 * x14 + (y2 * x24 + (y3 * x34 + 0))))) = nd_5 x00 x01 x02 x03 x04 x10 x11 x12 x13 x14 x20 x21 x22 x23 x24 x30 x31 x32 x33 x34 w0 w1 w2 w3 w4 := by
  simp only [nd_5, nd_4, nd_3, nd_2]
  grind
theorem nd_ad5 (x00 x01 x02 x03 x04 x10 x11 x12 x13 x14 x20 x21 x22 x23 x24 x30 x31 x32 x33 x34 w0 w1 w2 w3 w4 v0 v1 v2 v3 v4 : Int) : nd_5 x00 x01 x02 x03 x04 x10 x11 x12 x13 x14 x20 x21 x22 x23 x24 x30 x31 x32 x33 x34 (w0 + v0) (w1 + v1) (w2 + v2) (w3 + v3) (w4 + v4) = nd_5 x00 x01 x02 x03 x04 x10 x11 x12 x13 x14 x20 x21 x22 x23 x24 x30 x31 x32 x33 x34 w0 w1 w2 w3 w4 + nd_5 x00 x01 x02 x03 x04 x10 x11 x12 x13 x14 x20 x21 x22 x23 x24 x30 x31 x32 x33 x34 v0 v1 v2 v3 v4 := by
  simp only [nd_5, nd_4, nd_3, nd_2]
  grind
theorem nd_sc5 (x00 x01 x02 x03 x04 x10 x11 x12 x13 x14 x20 x21 x22 x23 x24 x30 x31 x32 x33 x34 w0 w1 w2 w3 w4 t : Int) : nd_5 x00 x01 x02 x03 x04 x10 x11 x12 x13 x14 x20 x21 x22 x23 x24 x30 x31 x32 x33 x34 (t * w0) (t * w1) (t * w2) (t * w3) (t * w4) = t * (nd_5 x00 x01 x02 x03 x04 x10 x11 x12 x13 x14 x20 x21 x22 x23 x24 x30 x31 x32 x33 x34 w0 w1 w2 w3 w4) := by
  simp only [nd_5, nd_4, nd_3, nd_2]
  grind
theorem nd_co5 (x00 x01 x02 x03 x04 x10 x11 x12 x13 x14 x20 x21 x22 x23 x24 x30 x31 x32 x33 x34 w0 w1 w2 w3 w4 : Int) : nd_5 x00 x01 x02 x03 x04 x10 x11 x12 x13 x14 x20 x21 x22 x23 x24 x30 x31 x32 x33 x34 w0 w1 w2 w3 w4 = ((nd_4 x10 x11 x12 x13 x20 x21 x22 x23 x30 x31 x32 x33 w0 w1 w2 w3) * x04 + ((-(nd_4 x00 x01 x02 x03 x20 x21 x22 x23 x30 x31 x32 x33 w0 w1 w2 w3)) * x14 + ((nd_4 x00 x01 x02 x03 x10 x11 x12 x13 x30 x31 x32 x33 w0 w1 w2 w3) * x24 + ((-(nd_4 x00 x01 x02 x03 x10 x11 x12 x13 x20 x21 x22 x23 w0 w1 w2 w3)) * x34 + 0)))) + (nd_4 x00 x01 x02 x03 x10 x11 x12 x13 x20 x21 x22 x23 x30 x31 x32 x33) * w4 := by
  simp only [nd_5, nd_4, nd_3, nd_2]
  grind
theorem nd_un1 : (1 : Int) = 1 := rfl
theorem nd_un2 (x00 x01 : Int) : nd_2 x00 x01 (0) (1) = x00 := by
  simp only [nd_2]
  grind
theorem nd_un3 (x00 x01 x02 x10 x11 x12 : Int) : nd_3 x00 x01 x02 x10 x11 x12 (0) (0) (1) = nd_2 x00 x01 x10 x11 := by
  simp only [nd_3, nd_2]
  grind
theorem nd_un4 (x00 x01 x02 x03 x10 x11 x12 x13 x20 x21 x22 x23 : Int) : nd_4 x00 x01 x02 x03 x10 x11 x12 x13 x20 x21 x22 x23 (0) (0) (0) (1) = nd_3 x00 x01 x02 x10 x11 x12 x20 x21 x22 := by
  simp only [nd_4, nd_3, nd_2]
  grind
theorem nd_un5 (x00 x01 x02 x03 x04 x10 x11 x12 x13 x14 x20 x21 x22 x23 x24 x30 x31 x32 x33 x34 : Int) : nd_5 x00 x01 x02 x03 x04 x10 x11 x12 x13 x14 x20 x21 x22 x23 x24 x30 x31 x32 x33 x34 (0) (0) (0) (0) (1) = nd_4 x00 x01 x02 x03 x10 x11 x12 x13 x20 x21 x22 x23 x30 x31 x32 x33 := by
  simp only [nd_5, nd_4, nd_3, nd_2]
  grind
theorem nd_bm {x y : Int} {a b : Nat} (hx : x.natAbs ≤ a) (hy : y.natAbs ≤ b) : (x * y).natAbs ≤ a * b := by rw [Int.natAbs_mul]; exact Nat.mul_le_mul hx hy
theorem nd_ba {x y : Int} {a b : Nat} (hx : x.natAbs ≤ a) (hy : y.natAbs ≤ b) : (x + y).natAbs ≤ a + b := by omega
theorem nd_bs {x y : Int} {a b : Nat} (hx : x.natAbs ≤ a) (hy : y.natAbs ≤ b) : (x - y).natAbs ≤ a + b := by omega
theorem nd_b2 {x00 x01 x10 x11 : Int} (h00 : x00.natAbs ≤ 45) (h01 : x01.natAbs ≤ 45) (h10 : x10.natAbs ≤ 45) (h11 : x11.natAbs ≤ 45) : (nd_2 x00 x01 x10 x11).natAbs ≤ 4050 := Nat.le_trans (nd_bs (nd_bm h00 h11) (nd_bm h01 h10)) (by decide)
theorem nd_b3 {x00 x01 x02 x10 x11 x12 x20 x21 x22 : Int} (h00 : x00.natAbs ≤ 45) (h01 : x01.natAbs ≤ 45) (h02 : x02.natAbs ≤ 45) (h10 : x10.natAbs ≤ 45) (h11 : x11.natAbs ≤ 45) (h12 : x12.natAbs ≤ 45) (h20 : x20.natAbs ≤ 45) (h21 : x21.natAbs ≤ 45) (h22 : x22.natAbs ≤ 45) : (nd_3 x00 x01 x02 x10 x11 x12 x20 x21 x22).natAbs ≤ 546750 := Nat.le_trans (nd_ba (nd_bs (nd_bm h00 (nd_b2 h11 h12 h21 h22)) (nd_bm h01 (nd_b2 h10 h12 h20 h22))) (nd_bm h02 (nd_b2 h10 h11 h20 h21))) (by decide)
theorem nd_b4 {x00 x01 x02 x03 x10 x11 x12 x13 x20 x21 x22 x23 x30 x31 x32 x33 : Int} (h00 : x00.natAbs ≤ 45) (h01 : x01.natAbs ≤ 45) (h02 : x02.natAbs ≤ 45) (h03 : x03.natAbs ≤ 45) (h10 : x10.natAbs ≤ 45) (h11 : x11.natAbs ≤ 45) (h12 : x12.natAbs ≤ 45) (h13 : x13.natAbs ≤ 45) (h20 : x20.natAbs ≤ 45) (h21 : x21.natAbs ≤ 45) (h22 : x22.natAbs ≤ 45) (h23 : x23.natAbs ≤ 45) (h30 : x30.natAbs ≤ 45) (h31 : x31.natAbs ≤ 45) (h32 : x32.natAbs ≤ 45) (h33 : x33.natAbs ≤ 45) : (nd_4 x00 x01 x02 x03 x10 x11 x12 x13 x20 x21 x22 x23 x30 x31 x32 x33).natAbs ≤ 98415000 := Nat.le_trans (nd_bs (nd_ba (nd_bs (nd_bm h00 (nd_b3 h11 h12 h13 h21 h22 h23 h31 h32 h33)) (nd_bm h01 (nd_b3 h10 h12 h13 h20 h22 h23 h30 h32 h33))) (nd_bm h02 (nd_b3 h10 h11 h13 h20 h21 h23 h30 h31 h33))) (nd_bm h03 (nd_b3 h10 h11 h12 h20 h21 h22 h30 h31 h32))) (by decide)
theorem nd_b5 {x00 x01 x02 x03 x04 x10 x11 x12 x13 x14 x20 x21 x22 x23 x24 x30 x31 x32 x33 x34 x40 x41 x42 x43 x44 : Int} (h00 : x00.natAbs ≤ 45) (h01 : x01.natAbs ≤ 45) (h02 : x02.natAbs ≤ 45) (h03 : x03.natAbs ≤ 45) (h04 : x04.natAbs ≤ 45) (h10 : x10.natAbs ≤ 45) (h11 : x11.natAbs ≤ 45) (h12 : x12.natAbs ≤ 45) (h13 : x13.natAbs ≤ 45) (h14 : x14.natAbs ≤ 45) (h20 : x20.natAbs ≤ 45) (h21 : x21.natAbs ≤ 45) (h22 : x22.natAbs ≤ 45) (h23 : x23.natAbs ≤ 45) (h24 : x24.natAbs ≤ 45) (h30 : x30.natAbs ≤ 45) (h31 : x31.natAbs ≤ 45) (h32 : x32.natAbs ≤ 45) (h33 : x33.natAbs ≤ 45) (h34 : x34.natAbs ≤ 45) (h40 : x40.natAbs ≤ 45) (h41 : x41.natAbs ≤ 45) (h42 : x42.natAbs ≤ 45) (h43 : x43.natAbs ≤ 45) (h44 : x44.natAbs ≤ 45) : (nd_5 x00 x01 x02 x03 x04 x10 x11 x12 x13 x14 x20 x21 x22 x23 x24 x30 x31 x32 x33 x34 x40 x41 x42 x43 x44).natAbs ≤ 22143375000 := Nat.le_trans (nd_ba (nd_bs (nd_ba (nd_bs (nd_bm h00 (nd_b4 h11 h12 h13 h14 h21 h22 h23 h24 h31 h32 h33 h34 h41 h42 h43 h44)) (nd_bm h01 (nd_b4 h10 h12 h13 h14 h20 h22 h23 h24 h30 h32 h33 h34 h40 h42 h43 h44))) (nd_bm h02 (nd_b4 h10 h11 h13 h14 h20 h21 h23 h24 h30 h31 h33 h34 h40 h41 h43 h44))) (nd_bm h03 (nd_b4 h10 h11 h12 h14 h20 h21 h22 h24 h30 h31 h32 h34 h40 h41 h42 h44))) (nd_bm h04 (nd_b4 h10 h11 h12 h13 h20 h21 h22 h23 h30 h31 h32 h33 h40 h41 h42 h43))) (by decide)
def nd_D (m : Nat → Nat → Int) : List Nat → Int
  | [] => 1
  | [a] => m a a
  | [a, b] => nd_2 (m a a) (m a b) (m b a) (m b b)
  | [a, b, c] => nd_3 (m a a) (m a b) (m a c) (m b a) (m b b) (m b c) (m c a) (m c b) (m c c)
  | [a, b, c, d] => nd_4 (m a a) (m a b) (m a c) (m a d) (m b a) (m b b) (m b c) (m b d) (m c a) (m c b) (m c c) (m c d) (m d a) (m d b) (m d c) (m d d)
  | [a, b, c, d, e] => nd_5 (m a a) (m a b) (m a c) (m a d) (m a e) (m b a) (m b b) (m b c) (m b d) (m b e) (m c a) (m c b) (m c c) (m c d) (m c e) (m d a) (m d b) (m d c) (m d d) (m d e) (m e a) (m e b) (m e c) (m e d) (m e e)
  | _ => 0
def nd_R (m : Nat → Nat → Int) (r : Nat → Int) (j : Nat) : List Nat → Int
  | [] => r j
  | [a] => nd_2 (m a a) (m a j) (r a) (r j)
  | [a, b] => nd_3 (m a a) (m a b) (m a j) (m b a) (m b b) (m b j) (r a) (r b) (r j)
  | [a, b, c] => nd_4 (m a a) (m a b) (m a c) (m a j) (m b a) (m b b) (m b c) (m b j) (m c a) (m c b) (m c c) (m c j) (r a) (r b) (r c) (r j)
  | [a, b, c, d] => nd_5 (m a a) (m a b) (m a c) (m a d) (m a j) (m b a) (m b b) (m b c) (m b d) (m b j) (m c a) (m c b) (m c c) (m c d) (m c j) (m d a) (m d b) (m d c) (m d d) (m d j) (r a) (r b) (r c) (r d) (r j)
  | _ => 0
def nd_S (m : Nat → Nat → Int) (y : Nat → Int) (c : Nat) : List Nat → Int
  | [] => 0
  | b :: l => y b * m b c + nd_S m y c l
theorem nd_sn (m : Nat → Nat → Int) (p : Nat) : (K : List Nat) → nd_D m (K ++ [p]) = nd_R m (m p) p K
  | [] => rfl
  | [a] => rfl
  | [a, b] => rfl
  | [a, b, c] => rfl
  | [a, b, c, d] => rfl
  | _ :: _ :: _ :: _ :: _ :: [] => rfl
  | _ :: _ :: _ :: _ :: _ :: _ :: _ => rfl
theorem nd_sy (m : Nat → Nat → Int) (p i j : Nat) : (K : List Nat) → K.length ≤ 3 → nd_R m (m p) p K * nd_R m (m i) j K - nd_R m (m i) p K * nd_R m (m p) j K = nd_D m K * nd_R m (m i) j (K ++ [p])
  | [], _ => nd_sy0 (m p p) (m p j) (m i p) (m i j)
  | [a], _ => nd_sy1 (m a a) (m a p) (m a j) (m p a) (m p p) (m p j) (m i a) (m i p) (m i j)
  | [a, b], _ => nd_sy2 (m a a) (m a b) (m a p) (m a j) (m b a) (m b b) (m b p) (m b j) (m p a) (m p b) (m p p) (m p j) (m i a) (m i b) (m i p) (m i j)
  | [a, b, c], _ => nd_sy3 (m a a) (m a b) (m a c) (m a p) (m a j) (m b a) (m b b) (m b c) (m b p) (m b j) (m c a) (m c b) (m c c) (m c p) (m c j) (m p a) (m p b) (m p c) (m p p) (m p j) (m i a) (m i b) (m i c) (m i p) (m i j)
  | _ :: _ :: _ :: _ :: _, h => by simp at h
theorem nd_tr (m : Nat → Nat → Int) (i j : Nat) : (K : List Nat) → nd_R m (m i) j K = nd_R (fun a b => m b a) (fun b => m b j) i K
  | [] => rfl
  | [a] => nd_tr2 (m a a) (m i a) (m a j) (m i j)
  | [a, b] => nd_tr3 (m a a) (m b a) (m i a) (m a b) (m b b) (m i b) (m a j) (m b j) (m i j)
  | [a, b, c] => nd_tr4 (m a a) (m b a) (m c a) (m i a) (m a b) (m b b) (m c b) (m i b) (m a c) (m b c) (m c c) (m i c) (m a j) (m b j) (m c j) (m i j)
  | [a, b, c, d] => nd_tr5 (m a a) (m b a) (m c a) (m d a) (m i a) (m a b) (m b b) (m c b) (m d b) (m i b) (m a c) (m b c) (m c c) (m d c) (m i c) (m a d) (m b d) (m c d) (m d d) (m i d) (m a j) (m b j) (m c j) (m d j) (m i j)
  | _ :: _ :: _ :: _ :: _ :: _ => rfl
theorem nd_trD (m : Nat → Nat → Int) : (K : List Nat) → nd_D m K = nd_D (fun a b => m b a) K
  | [] => rfl
  | [_] => rfl
  | [a, b] => nd_tr2 (m a a) (m b a) (m a b) (m b b)
  | [a, b, c] => nd_tr3 (m a a) (m b a) (m c a) (m a b) (m b b) (m c b) (m a c) (m b c) (m c c)
  | [a, b, c, d] => nd_tr4 (m a a) (m b a) (m c a) (m d a) (m a b) (m b b) (m c b) (m d b) (m a c) (m b c) (m c c) (m d c) (m a d) (m b d) (m c d) (m d d)
  | [a, b, c, d, e] => nd_tr5 (m a a) (m b a) (m c a) (m d a) (m e a) (m a b) (m b b) (m c b) (m d b) (m e b) (m a c) (m b c) (m c c) (m d c) (m e c) (m a d) (m b d) (m c d) (m d d) (m e d) (m a e) (m b e) (m c e) (m d e) (m e e)
  | _ :: _ :: _ :: _ :: _ :: _ :: _ => rfl
theorem nd_li (m : Nat → Nat → Int) (r y : Nat → Int) (j : Nat) : (K : List Nat) → nd_R m (fun c => r c + nd_S m y c K) j K = nd_R m r j K
  | [] => nd_li1 (r j)
  | [a] => nd_li2 (m a a) (m a j) (r a) (r j) (y a)
  | [a, b] => nd_li3 (m a a) (m a b) (m a j) (m b a) (m b b) (m b j) (r a) (r b) (r j) (y a) (y b)
  | [a, b, c] => nd_li4 (m a a) (m a b) (m a c) (m a j) (m b a) (m b b) (m b c) (m b j) (m c a) (m c b) (m c c) (m c j) (r a) (r b) (r c) (r j) (y a) (y b) (y c)
  | [a, b, c, d] => nd_li5 (m a a) (m a b) (m a c) (m a d) (m a j) (m b a) (m b b) (m b c) (m b d) (m b j) (m c a) (m c b) (m c c) (m c d) (m c j) (m d a) (m d b) (m d c) (m d d) (m d j) (r a) (r b) (r c) (r d) (r j) (y a) (y b) (y c) (y d)
  | _ :: _ :: _ :: _ :: _ :: _ => rfl
theorem nd_ad (m : Nat → Nat → Int) (r s : Nat → Int) (j : Nat) : (K : List Nat) → nd_R m (fun c => r c + s c) j K = nd_R m r j K + nd_R m s j K
  | [] => nd_ad1 (r j) (s j)
  | [a] => nd_ad2 (m a a) (m a j) (r a) (r j) (s a) (s j)
  | [a, b] => nd_ad3 (m a a) (m a b) (m a j) (m b a) (m b b) (m b j) (r a) (r b) (r j) (s a) (s b) (s j)
  | [a, b, c] => nd_ad4 (m a a) (m a b) (m a c) (m a j) (m b a) (m b b) (m b c) (m b j) (m c a) (m c b) (m c c) (m c j) (r a) (r b) (r c) (r j) (s a) (s b) (s c) (s j)
  | [a, b, c, d] => nd_ad5 (m a a) (m a b) (m a c) (m a d) (m a j) (m b a) (m b b) (m b c) (m b d) (m b j) (m c a) (m c b) (m c c) (m c d) (m c j) (m d a) (m d b) (m d c) (m d d) (m d j) (r a) (r b) (r c) (r d) (r j) (s a) (s b) (s c) (s d) (s j)
  | _ :: _ :: _ :: _ :: _ :: _ => rfl
theorem nd_sc (m : Nat → Nat → Int) (r : Nat → Int) (t : Int) (j : Nat) : (K : List Nat) → nd_R m (fun c => t * r c) j K = t * nd_R m r j K
  | [] => nd_sc1 (r j) t
  | [a] => nd_sc2 (m a a) (m a j) (r a) (r j) t
  | [a, b] => nd_sc3 (m a a) (m a b) (m a j) (m b a) (m b b) (m b j) (r a) (r b) (r j) t
  | [a, b, c] => nd_sc4 (m a a) (m a b) (m a c) (m a j) (m b a) (m b b) (m b c) (m b j) (m c a) (m c b) (m c c) (m c j) (r a) (r b) (r c) (r j) t
  | [a, b, c, d] => nd_sc5 (m a a) (m a b) (m a c) (m a d) (m a j) (m b a) (m b b) (m b c) (m b d) (m b j) (m c a) (m c b) (m c c) (m c d) (m c j) (m d a) (m d b) (m d c) (m d d) (m d j) (r a) (r b) (r c) (r d) (r j) t
  | _ :: _ :: _ :: _ :: _ :: _ => (Int.mul_zero t).symm
theorem nd_cr (m : Nat → Nat → Int) {r s : Nat → Int} (j : Nat) : (K : List Nat) → (∀ c, c ∈ j :: K → r c = s c) → nd_R m r j K = nd_R m s j K
  | [], h => by simp only [nd_R, h j (by simp)]
  | [a], h => by simp only [nd_R, h a (by simp), h j (by simp)]
  | [a, b], h => by simp only [nd_R, h a (by simp), h b (by simp), h j (by simp)]
  | [a, b, c], h => by simp only [nd_R, h a (by simp), h b (by simp), h c (by simp), h j (by simp)]
  | [a, b, c, d], h => by simp only [nd_R, h a (by simp), h b (by simp), h c (by simp), h d (by simp), h j (by simp)]
  | _ :: _ :: _ :: _ :: _ :: _, _ => rfl
theorem nd_cm {m q : Nat → Nat → Int} (r : Nat → Int) (j : Nat) : (K : List Nat) → (∀ b, b ∈ K → m b = q b) → nd_R m r j K = nd_R q r j K
  | [], _ => rfl
  | [a], h => by simp only [nd_R, h a (by simp)]
  | [a, b], h => by simp only [nd_R, h a (by simp), h b (by simp)]
  | [a, b, c], h => by simp only [nd_R, h a (by simp), h b (by simp), h c (by simp)]
  | [a, b, c, d], h => by simp only [nd_R, h a (by simp), h b (by simp), h c (by simp), h d (by simp)]
  | _ :: _ :: _ :: _ :: _ :: _, _ => rfl
theorem nd_co (m : Nat → Nat → Int) (r : Nat → Int) : (K : List Nat) → K.Nodup → K.length ≤ 4 → ∃ y : Nat → Int, ∀ j, nd_R m r j K = nd_S m y j K + nd_D m K * r j
  | [], _, _ => ⟨fun _ => 0, fun j => by simp [nd_R, nd_S, nd_D]⟩
  | [a], h, _ => ⟨fun z => if z = a then (-(r a)) else 0, fun j => by
      have e := nd_co2 (m a a) (m a j) (r a) (r j)
      simp only [nd_S, eq_self, if_true, if_false, reduceIte]
      exact e⟩
  | [a, b], h, _ => ⟨fun z => if z = a then (nd_2 (m b a) (m b b) (r a) (r b)) else if z = b then (-(nd_2 (m a a) (m a b) (r a) (r b))) else 0, fun j => by
      have h01 : ¬ b = a := by intro e; subst e; simp at h
      have e := nd_co3 (m a a) (m a b) (m a j) (m b a) (m b b) (m b j) (r a) (r b) (r j)
      simp only [nd_S, h01, eq_self, if_true, if_false, reduceIte]
      exact e⟩
  | [a, b, c], h, _ => ⟨fun z => if z = a then (-(nd_3 (m b a) (m b b) (m b c) (m c a) (m c b) (m c c) (r a) (r b) (r c))) else if z = b then (nd_3 (m a a) (m a b) (m a c) (m c a) (m c b) (m c c) (r a) (r b) (r c)) else if z = c then (-(nd_3 (m a a) (m a b) (m a c) (m b a) (m b b) (m b c) (r a) (r b) (r c))) else 0, fun j => by
      have h01 : ¬ b = a := by intro e; subst e; simp at h
      have h02 : ¬ c = a := by intro e; subst e; simp at h
      have h12 : ¬ c = b := by intro e; subst e; simp at h
      have e := nd_co4 (m a a) (m a b) (m a c) (m a j) (m b a) (m b b) (m b c) (m b j) (m c a) (m c b) (m c c) (m c j) (r a) (r b) (r c) (r j)
      simp only [nd_S, h01, h02, h12, eq_self, if_true, if_false, reduceIte]
      exact e⟩
  | [a, b, c, d], h, _ => ⟨fun z => if z = a then (nd_4 (m b a) (m b b) (m b c) (m b d) (m c a) (m c b) (m c c) (m c d) (m d a) (m d b) (m d c) (m d d) (r a) (r b) (r c) (r d)) else if z = b then (-(nd_4 (m a a) (m a b) (m a c) (m a d) (m c a) (m c b) (m c c) (m c d) (m d a) (m d b) (m d c) (m d d) (r a) (r b) (r c) (r d))) else if z = c then (nd_4 (m a a) (m a b) (m a c) (m a d) (m b a) (m b b) (m b c) (m b d) (m d a) (m d b) (m d c) (m d d) (r a) (r b) (r c) (r d)) else if z = d then (-(nd_4 (m a a) (m a b) (m a c) (m a d) (m b a) (m b b) (m b c) (m b d) (m c a) (m c b) (m c c) (m c d) (r a) (r b) (r c) (r d))) else 0, fun j => by
      have h01 : ¬ b = a := by intro e; subst e; simp at h
      have h02 : ¬ c = a := by intro e; subst e; simp at h
      have h03 : ¬ d = a := by intro e; subst e; simp at h
      have h12 : ¬ c = b := by intro e; subst e; simp at h
      have h13 : ¬ d = b := by intro e; subst e; simp at h
      have h23 : ¬ d = c := by intro e; subst e; simp at h
      have e := nd_co5 (m a a) (m a b) (m a c) (m a d) (m a j) (m b a) (m b b) (m b c) (m b d) (m b j) (m c a) (m c b) (m c c) (m c d) (m c j) (m d a) (m d b) (m d c) (m d d) (m d j) (r a) (r b) (r c) (r d) (r j)
      simp only [nd_S, h01, h02, h03, h12, h13, h23, eq_self, if_true, if_false, reduceIte]
      exact e⟩
  | _ :: _ :: _ :: _ :: _ :: _, _, h => by simp at h
theorem nd_cn (m : Nat → Nat → Int) {r : Nat → Int} (j : Nat) : (K : List Nat) → K.length ≤ 4 → (∀ c, c ∈ K → r c = 0) → r j = 1 → nd_R m r j K = nd_D m K
  | [], _, _, e => e
  | [a], _, h, e => by simp only [nd_R, nd_D, h a (by simp), e]; exact nd_un2 (m a a) (m a j)
  | [a, b], _, h, e => by simp only [nd_R, nd_D, h a (by simp), h b (by simp), e]; exact nd_un3 (m a a) (m a b) (m a j) (m b a) (m b b) (m b j)
  | [a, b, c], _, h, e => by simp only [nd_R, nd_D, h a (by simp), h b (by simp), h c (by simp), e]; exact nd_un4 (m a a) (m a b) (m a c) (m a j) (m b a) (m b b) (m b c) (m b j) (m c a) (m c b) (m c c) (m c j)
  | [a, b, c, d], _, h, e => by simp only [nd_R, nd_D, h a (by simp), h b (by simp), h c (by simp), h d (by simp), e]; exact nd_un5 (m a a) (m a b) (m a c) (m a d) (m a j) (m b a) (m b b) (m b c) (m b d) (m b j) (m c a) (m c b) (m c c) (m c d) (m c j) (m d a) (m d b) (m d c) (m d d) (m d j)
  | _ :: _ :: _ :: _ :: _ :: _, h, _, _ => by simp at h
def nd_bd : Nat → Nat
  | 0 => 1
  | 1 => 45
  | 2 => 4050
  | 3 => 546750
  | 4 => 98415000
  | 5 => 22143375000
  | _ => 0
theorem nd_bR {m : Nat → Nat → Int} (h : ∀ a b, (m a b).natAbs ≤ 45) (i j : Nat) : (K : List Nat) → (nd_R m (m i) j K).natAbs ≤ nd_bd (K.length + 1)
  | [] => h i j
  | [a] => nd_b2 (h a a) (h a j) (h i a) (h i j)
  | [a, b] => nd_b3 (h a a) (h a b) (h a j) (h b a) (h b b) (h b j) (h i a) (h i b) (h i j)
  | [a, b, c] => nd_b4 (h a a) (h a b) (h a c) (h a j) (h b a) (h b b) (h b c) (h b j) (h c a) (h c b) (h c c) (h c j) (h i a) (h i b) (h i c) (h i j)
  | [a, b, c, d] => nd_b5 (h a a) (h a b) (h a c) (h a d) (h a j) (h b a) (h b b) (h b c) (h b d) (h b j) (h c a) (h c b) (h c c) (h c d) (h c j) (h d a) (h d b) (h d c) (h d d) (h d j) (h i a) (h i b) (h i c) (h i d) (h i j)
  | _ :: _ :: _ :: _ :: _ :: _ => Nat.zero_le _
theorem nd_bD {m : Nat → Nat → Int} (h : ∀ a b, (m a b).natAbs ≤ 45) : (K : List Nat) → (nd_D m K).natAbs ≤ nd_bd K.length
  | [] => Nat.le_refl 1
  | [a] => h a a
  | [a, b] => nd_b2 (h a a) (h a b) (h b a) (h b b)
  | [a, b, c] => nd_b3 (h a a) (h a b) (h a c) (h b a) (h b b) (h b c) (h c a) (h c b) (h c c)
  | [a, b, c, d] => nd_b4 (h a a) (h a b) (h a c) (h a d) (h b a) (h b b) (h b c) (h b d) (h c a) (h c b) (h c c) (h c d) (h d a) (h d b) (h d c) (h d d)
  | [a, b, c, d, e] => nd_b5 (h a a) (h a b) (h a c) (h a d) (h a e) (h b a) (h b b) (h b c) (h b d) (h b e) (h c a) (h c b) (h c c) (h c d) (h c e) (h d a) (h d b) (h d c) (h d d) (h d e) (h e a) (h e b) (h e c) (h e d) (h e e)
  | _ :: _ :: _ :: _ :: _ :: _ :: _ => Nat.zero_le _
theorem nd_swp (m : Nat → Nat → Int) (a b : Nat) : (P l : List Nat) → nd_D m (P ++ a :: b :: l) = nd_D m (P ++ b :: a :: l)
  | [], [] => nd_sw20 (m b b) (m b a) (m a b) (m a a)
  | [], [u] => nd_sw30 (m b b) (m b a) (m b u) (m a b) (m a a) (m a u) (m u b) (m u a) (m u u)
  | [], [u, v] => nd_sw40 (m b b) (m b a) (m b u) (m b v) (m a b) (m a a) (m a u) (m a v) (m u b) (m u a) (m u u) (m u v) (m v b) (m v a) (m v u) (m v v)
  | [], [u, v, z] => nd_sw50 (m b b) (m b a) (m b u) (m b v) (m b z) (m a b) (m a a) (m a u) (m a v) (m a z) (m u b) (m u a) (m u u) (m u v) (m u z) (m v b) (m v a) (m v u) (m v v) (m v z) (m z b) (m z a) (m z u) (m z v) (m z z)
  | [p], [] => nd_sw31 (m p p) (m p b) (m p a) (m b p) (m b b) (m b a) (m a p) (m a b) (m a a)
  | [p], [u] => nd_sw41 (m p p) (m p b) (m p a) (m p u) (m b p) (m b b) (m b a) (m b u) (m a p) (m a b) (m a a) (m a u) (m u p) (m u b) (m u a) (m u u)
  | [p], [u, v] => nd_sw51 (m p p) (m p b) (m p a) (m p u) (m p v) (m b p) (m b b) (m b a) (m b u) (m b v) (m a p) (m a b) (m a a) (m a u) (m a v) (m u p) (m u b) (m u a) (m u u) (m u v) (m v p) (m v b) (m v a) (m v u) (m v v)
  | [p, q], [] => nd_sw42 (m p p) (m p q) (m p b) (m p a) (m q p) (m q q) (m q b) (m q a) (m b p) (m b q) (m b b) (m b a) (m a p) (m a q) (m a b) (m a a)
  | [p, q], [u] => nd_sw52 (m p p) (m p q) (m p b) (m p a) (m p u) (m q p) (m q q) (m q b) (m q a) (m q u) (m b p) (m b q) (m b b) (m b a) (m b u) (m a p) (m a q) (m a b) (m a a) (m a u) (m u p) (m u q) (m u b) (m u a) (m u u)
  | [p, q, r], [] => nd_sw53 (m p p) (m p q) (m p r) (m p b) (m p a) (m q p) (m q q) (m q r) (m q b) (m q a) (m r p) (m r q) (m r r) (m r b) (m r a) (m b p) (m b q) (m b r) (m b b) (m b a) (m a p) (m a q) (m a r) (m a b) (m a a)
  | [], _ :: _ :: _ :: _ :: _ => rfl
  | [_], _ :: _ :: _ :: _ => rfl
  | [_, _], _ :: _ :: _ => rfl
  | [_, _, _], _ :: _ => rfl
  | _ :: _ :: _ :: _ :: [], _ => rfl
  | _ :: _ :: _ :: _ :: _ :: [], _ => rfl
  | _ :: _ :: _ :: _ :: _ :: _ :: _, _ => rfl
theorem nd_pm0 (m : Nat → Nat → Int) {k l : List Nat} (h : k.Perm l) : ∀ P : List Nat, nd_D m (P ++ k) = nd_D m (P ++ l) := by
  induction h with
  | nil => intro P; rfl
  | cons x _ ih => intro P; have := ih (P ++ [x]); simpa using this
  | swap x y l => intro P; exact nd_swp m y x P l
  | trans _ _ h1 h2 => intro P; exact (h1 P).trans (h2 P)
theorem nd_pm (m : Nat → Nat → Int) {k l : List Nat} (h : k.Perm l) : nd_D m k = nd_D m l := nd_pm0 m h []
