set_option maxRecDepth 100000 in
theorem zinfp_0 : zinf_0.map zcdw = ([151, 860, 840, 708, 234, 828, 741, 736, 801, 211] : List Nat).filterMap (fun i => lw_tbl[i]?) := rfl
set_option maxRecDepth 100000 in
theorem zinfp_1 : zinf_1.map zcdw = ([238, 809, 242, 891, 246, 781, 785, 899, 895, 145] : List Nat).filterMap (fun i => lw_tbl[i]?) := rfl
set_option maxRecDepth 100000 in
theorem zinfp_2 : zinf_2.map zcdw = ([230, 797, 856, 852, 871, 943, 948, 939, 958, 1022] : List Nat).filterMap (fun i => lw_tbl[i]?) := rfl
set_option maxRecDepth 100000 in
theorem zinfp_3 : zinf_3.map zcdw = ([1015, 1141, 139, 226, 793, 285, 594, 692, 716, 728] : List Nat).filterMap (fun i => lw_tbl[i]?) := rfl
set_option maxRecDepth 100000 in
theorem zinfp_4 : zinf_4.map zcdw = ([601, 612, 605, 608, 615, 626, 338, 619, 623, 630] : List Nat).filterMap (fun i => lw_tbl[i]?) := rfl
set_option maxRecDepth 100000 in
theorem zinfp_5 : zinf_5.map zcdw = ([279, 789, 589, 696, 700, 751, 755, 759, 763, 768] : List Nat).filterMap (fun i => lw_tbl[i]?) := rfl
set_option maxRecDepth 100000 in
theorem zinfp_6 : zinf_6.map zcdw = ([772, 776, 720, 704, 724, 745, 712, 732, 403, 875] : List Nat).filterMap (fun i => lw_tbl[i]?) := rfl
set_option maxRecDepth 100000 in
theorem zinfp_7 : zinf_7.map zcdw = ([879, 919, 923, 927, 883, 887, 903, 907, 910, 419] : List Nat).filterMap (fun i => lw_tbl[i]?) := rfl
set_option maxRecDepth 100000 in
theorem zinfp_8 : zinf_8.map zcdw = ([982, 985, 977, 990, 998, 1007, 1011, 435, 1081, 1039] : List Nat).filterMap (fun i => lw_tbl[i]?) := rfl
set_option maxRecDepth 100000 in
theorem zinfp_9 : zinf_9.map zcdw = ([1044, 1053, 474, 1090, 1095, 1106, 1110, 1115, 1119, 1123] : List Nat).filterMap (fun i => lw_tbl[i]?) := rfl
set_option maxRecDepth 100000 in
theorem zinfp_10 : zinf_10.map zcdw = ([1132, 1136, 1146, 501, 815, 1228, 1232, 952, 1031, 1211] : List Nat).filterMap (fun i => lw_tbl[i]?) := rfl
set_option maxRecDepth 100000 in
theorem zinfp_11 : zinf_11.map zcdw = ([1207, 1219, 131, 570, 578, 585, 820, 824, 832, 836] : List Nat).filterMap (fun i => lw_tbl[i]?) := rfl
set_option maxRecDepth 100000 in
theorem zinfp_12 : zinf_12.map zcdw = ([844, 848, 931, 963, 968, 973, 1027, 1035, 1059, 1063] : List Nat).filterMap (fun i => lw_tbl[i]?) := rfl
set_option maxRecDepth 100000 in
theorem zinfp_13 : zinf_13.map zcdw = ([1071, 1076, 1085, 1127, 1150, 1158, 1166, 1170, 1174, 1180] : List Nat).filterMap (fun i => lw_tbl[i]?) := rfl
set_option maxRecDepth 100000 in
theorem zinfp_14 : zinf_14.map zcdw = ([1184, 1199, 1203, 1215, 1223, 581, 913, 574, 935, 1067] : List Nat).filterMap (fun i => lw_tbl[i]?) := rfl
set_option maxRecDepth 100000 in
theorem zinfp_16 : zinf_16.map zcdw = ([1540, 1537, 1250, 1247, 1534, 1526, 1544, 1548, 1560, 1580] : List Nat).filterMap (fun i => lw_tbl[i]?) := rfl
set_option maxRecDepth 100000 in
theorem zinfp_17 : zinf_17.map zcdw = ([1564, 1576, 1244, 1522, 1628, 1556, 1600, 1552, 1572, 1588] : List Nat).filterMap (fun i => lw_tbl[i]?) := rfl
set_option maxRecDepth 100000 in
theorem zinfp_18 : zinf_18.map zcdw = ([1584, 1568, 1592, 1596, 1604, 1624, 1616, 1620, 1608, 1612] : List Nat).filterMap (fun i => lw_tbl[i]?) := rfl
set_option maxRecDepth 100000 in
theorem zinfp_19 : zinf_19.map zcdw = ([1694, 1639, 1697, 1678, 1772, 1636, 1647, 1659, 1255, 1259] : List Nat).filterMap (fun i => lw_tbl[i]?) := rfl
set_option maxRecDepth 100000 in
theorem zinfp_20 : zinf_20.map zcdw = ([1667, 1752, 1749, 1675, 1671, 1686, 1690, 1682, 1701, 1705] : List Nat).filterMap (fun i => lw_tbl[i]?) := rfl
set_option maxRecDepth 100000 in
theorem zinfp_21 : zinf_21.map zcdw = ([1709, 1769, 1757, 1776, 1765, 1761, 1745, 1741, 1632, 1643] : List Nat).filterMap (fun i => lw_tbl[i]?) := rfl
set_option maxRecDepth 100000 in
theorem zinfp_22 : zinf_22.map zcdw = ([1651, 1655, 1663, 1725, 1721, 1717, 1713, 1729, 1733, 1737] : List Nat).filterMap (fun i => lw_tbl[i]?) := rfl
set_option maxRecDepth 100000 in
theorem zinfp_23 : zinf_23.map zcdw = ([1780, 1796, 1800, 1792, 1788, 1784, 1804, 1808, 1812, 1816] : List Nat).filterMap (fun i => lw_tbl[i]?) := rfl
set_option maxRecDepth 100000 in
theorem zinfp_24 : zinf_24.map zcdw = ([1828, 1825, 1832, 1836, 1820, 1844, 1840, 1848, 1855, 1852] : List Nat).filterMap (fun i => lw_tbl[i]?) := rfl
set_option maxRecDepth 100000 in
theorem zinfp_25 : zinf_25.map zcdw = ([1859, 1863, 1870, 1867, 1874, 1886, 1882, 1878, 1890, 1894] : List Nat).filterMap (fun i => lw_tbl[i]?) := rfl
set_option maxRecDepth 100000 in
theorem zinfp_26 : zinf_26.map zcdw = ([1898, 1902, 291, 295, 301, 305, 308, 311, 316, 635] : List Nat).filterMap (fun i => lw_tbl[i]?) := rfl
set_option maxRecDepth 100000 in
theorem zinfp_27 : zinf_27.map zcdw = ([639, 643, 646, 653, 649, 597, 1018, 864] : List Nat).filterMap (fun i => lw_tbl[i]?) := rfl
