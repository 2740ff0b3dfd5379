def zt_L26 : List zx_En := [
  (1049, 1, .aload_n 1, 0, 0, 0, 0, 0),
  (1050, 1, .aload_n 0, 0, 0, 0, 0, 0),
  (1051, 2, .iload 4, 0, 0, 0, 0, 0),
  (1053, 1, .iconst 1, 1, 0, 0, 0, 0),
  (1054, 1, .iadd, 0, 0, 0, 0, 0),
  (1055, 1, .iaload, 0, 0, 0, 0, 0),
  (1056, 1, .aload_n 0, 0, 0, 0, 0, 0),
  (1057, 2, .iload 4, 0, 0, 0, 0, 0),
  (1059, 1, .iconst 2, 2, 0, 0, 0, 0),
  (1060, 1, .iadd, 0, 0, 0, 0, 0),
  (1061, 1, .iaload, 0, 0, 0, 0, 0),
  (1062, 3, .invokevirtual 139, 0, 0, 1128, 0, 144),
  (1065, 1, .aload_n 2, 0, 0, 0, 0, 0),
  (1066, 1, .aload_n 0, 0, 0, 0, 0, 0),
  (1067, 2, .iload 4, 0, 0, 0, 0, 0),
  (1069, 1, .iconst 1, 1, 0, 0, 0, 0),
  (1070, 1, .iadd, 0, 0, 0, 0, 0),
  (1071, 1, .iaload, 0, 0, 0, 0, 0),
  (1072, 1, .aload_n 0, 0, 0, 0, 0, 0),
  (1073, 2, .iload 4, 0, 0, 0, 0, 0),
  (1075, 1, .iconst 2, 2, 0, 0, 0, 0),
  (1076, 1, .iadd, 0, 0, 0, 0, 0),
  (1077, 1, .iaload, 0, 0, 0, 0, 0),
  (1078, 3, .invokevirtual 142, 0, 0, 1642, 0, 247),
  (1081, 3, .if_icmp .eq 278, 0, 0, 0, 1359, 0),
  (1084, 1, .iconst 0, 0, 0, 0, 0, 0),
  (1085, 1, .ireturn, 0, 0, 0, 0, 0)]
set_option maxRecDepth 100000 in
theorem zk_L26 : zt_L26.all (zx_chk 272) = true := by decide +kernel
def zt_L27 : List zx_En := [
  (1086, 1, .aload_n 1, 0, 0, 0, 0, 0),
  (1087, 1, .aload_n 0, 0, 0, 0, 0, 0),
  (1088, 2, .iload 4, 0, 0, 0, 0, 0),
  (1090, 1, .iconst 1, 1, 0, 0, 0, 0),
  (1091, 1, .iadd, 0, 0, 0, 0, 0),
  (1092, 1, .iaload, 0, 0, 0, 0, 0),
  (1093, 3, .invokevirtual 143, 0, 0, 1144, 0, 145),
  (1096, 1, .aload_n 2, 0, 0, 0, 0, 0),
  (1097, 1, .aload_n 0, 0, 0, 0, 0, 0),
  (1098, 2, .iload 4, 0, 0, 0, 0, 0),
  (1100, 1, .iconst 1, 1, 0, 0, 0, 0),
  (1101, 1, .iadd, 0, 0, 0, 0, 0),
  (1102, 1, .iaload, 0, 0, 0, 0, 0),
  (1103, 3, .invokevirtual 146, 0, 0, 1646, 0, 251),
  (1106, 3, .if_icmp .eq 253, 0, 0, 0, 1359, 0),
  (1109, 1, .iconst 0, 0, 0, 0, 0, 0),
  (1110, 1, .ireturn, 0, 0, 0, 0, 0)]
set_option maxRecDepth 100000 in
theorem zk_L27 : zt_L27.all (zx_chk 272) = true := by decide +kernel
def zt_L28 : List zx_En := [
  (1111, 1, .aload_n 1, 0, 0, 0, 0, 0),
  (1112, 1, .aload_n 0, 0, 0, 0, 0, 0),
  (1113, 2, .iload 4, 0, 0, 0, 0, 0),
  (1115, 1, .iconst 1, 1, 0, 0, 0, 0),
  (1116, 1, .iadd, 0, 0, 0, 0, 0),
  (1117, 1, .iaload, 0, 0, 0, 0, 0),
  (1118, 1, .aload_n 0, 0, 0, 0, 0, 0),
  (1119, 2, .iload 4, 0, 0, 0, 0, 0),
  (1121, 1, .iconst 2, 2, 0, 0, 0, 0),
  (1122, 1, .iadd, 0, 0, 0, 0, 0),
  (1123, 1, .iaload, 0, 0, 0, 0, 0),
  (1124, 3, .ifCond .eq 7, 0, 0, 0, 1131, 0),
  (1127, 1, .iconst 1, 1, 0, 0, 0, 0),
  (1128, 3, .goto 4, 0, 0, 0, 1132, 0),
  (1131, 1, .iconst 0, 0, 0, 0, 0, 0),
  (1132, 3, .invokevirtual 147, 0, 0, 1152, 0, 146),
  (1135, 1, .aload_n 2, 0, 0, 0, 0, 0),
  (1136, 1, .aload_n 0, 0, 0, 0, 0, 0),
  (1137, 2, .iload 4, 0, 0, 0, 0, 0),
  (1139, 1, .iconst 1, 1, 0, 0, 0, 0),
  (1140, 1, .iadd, 0, 0, 0, 0, 0),
  (1141, 1, .iaload, 0, 0, 0, 0, 0),
  (1142, 1, .aload_n 0, 0, 0, 0, 0, 0),
  (1143, 2, .iload 4, 0, 0, 0, 0, 0),
  (1145, 1, .iconst 2, 2, 0, 0, 0, 0),
  (1146, 1, .iadd, 0, 0, 0, 0, 0),
  (1147, 1, .iaload, 0, 0, 0, 0, 0),
  (1148, 3, .ifCond .eq 7, 0, 0, 0, 1155, 0),
  (1151, 1, .iconst 1, 1, 0, 0, 0, 0),
  (1152, 3, .goto 4, 0, 0, 0, 1156, 0),
  (1155, 1, .iconst 0, 0, 0, 0, 0, 0),
  (1156, 3, .invokevirtual 151, 0, 0, 1658, 0, 252),
  (1159, 3, .if_icmp .eq 200, 0, 0, 0, 1359, 0),
  (1162, 1, .iconst 0, 0, 0, 0, 0, 0),
  (1163, 1, .ireturn, 0, 0, 0, 0, 0)]
set_option maxRecDepth 100000 in
theorem zk_L28 : zt_L28.all (zx_chk 272) = true := by decide +kernel
def zt_L29 : List zx_En := [
  (1164, 1, .aload_n 1, 0, 0, 0, 0, 0),
  (1165, 3, .invokevirtual 152, 0, 0, 1189, 0, 147),
  (1168, 1, .aload_n 2, 0, 0, 0, 0, 0),
  (1169, 3, .invokevirtual 155, 0, 0, 1662, 0, 254),
  (1172, 3, .if_icmp .eq 187, 0, 0, 0, 1359, 0),
  (1175, 1, .iconst 0, 0, 0, 0, 0, 0),
  (1176, 1, .ireturn, 0, 0, 0, 0, 0)]
set_option maxRecDepth 100000 in
theorem zk_L29 : zt_L29.all (zx_chk 272) = true := by decide +kernel
def zt_L30 : List zx_En := [
  (1177, 1, .aload_n 1, 0, 0, 0, 0, 0),
  (1178, 3, .invokevirtual 156, 0, 0, 1194, 0, 148),
  (1181, 1, .aload_n 2, 0, 0, 0, 0, 0),
  (1182, 3, .invokevirtual 159, 0, 0, 1675, 0, 255),
  (1185, 3, .if_icmp .eq 174, 0, 0, 0, 1359, 0),
  (1188, 1, .iconst 0, 0, 0, 0, 0, 0),
  (1189, 1, .ireturn, 0, 0, 0, 0, 0)]
set_option maxRecDepth 100000 in
theorem zk_L30 : zt_L30.all (zx_chk 272) = true := by decide +kernel
def zt_L31 : List zx_En := [
  (1190, 1, .aload_n 1, 0, 0, 0, 0, 0),
  (1191, 3, .invokevirtual 160, 0, 0, 1199, 0, 149),
  (1194, 1, .aload_n 2, 0, 0, 0, 0, 0),
  (1195, 3, .invokevirtual 163, 0, 0, 1679, 0, 256),
  (1198, 3, .if_icmp .eq 161, 0, 0, 0, 1359, 0),
  (1201, 1, .iconst 0, 0, 0, 0, 0, 0),
  (1202, 1, .ireturn, 0, 0, 0, 0, 0)]
set_option maxRecDepth 100000 in
theorem zk_L31 : zt_L31.all (zx_chk 272) = true := by decide +kernel
def zt_L32 : List zx_En := [
  (1203, 1, .aload_n 1, 0, 0, 0, 0, 0),
  (1204, 1, .aload_n 0, 0, 0, 0, 0, 0),
  (1205, 2, .iload 4, 0, 0, 0, 0, 0),
  (1207, 1, .iconst 1, 1, 0, 0, 0, 0),
  (1208, 1, .iadd, 0, 0, 0, 0, 0),
  (1209, 1, .iaload, 0, 0, 0, 0, 0),
  (1210, 3, .invokevirtual 164, 0, 0, 1203, 0, 150),
  (1213, 1, .aload_n 2, 0, 0, 0, 0, 0),
  (1214, 1, .aload_n 0, 0, 0, 0, 0, 0),
  (1215, 2, .iload 4, 0, 0, 0, 0, 0),
  (1217, 1, .iconst 1, 1, 0, 0, 0, 0),
  (1218, 1, .iadd, 0, 0, 0, 0, 0),
  (1219, 1, .iaload, 0, 0, 0, 0, 0),
  (1220, 3, .invokevirtual 167, 0, 0, 1683, 0, 257),
  (1223, 3, .if_icmp .eq 136, 0, 0, 0, 1359, 0),
  (1226, 1, .iconst 0, 0, 0, 0, 0, 0),
  (1227, 1, .ireturn, 0, 0, 0, 0, 0)]
set_option maxRecDepth 100000 in
theorem zk_L32 : zt_L32.all (zx_chk 272) = true := by decide +kernel
def zt_L33 : List zx_En := [
  (1228, 1, .aload_n 1, 0, 0, 0, 0, 0),
  (1229, 1, .aload_n 0, 0, 0, 0, 0, 0),
  (1230, 2, .iload 4, 0, 0, 0, 0, 0),
  (1232, 1, .iconst 1, 1, 0, 0, 0, 0),
  (1233, 1, .iadd, 0, 0, 0, 0, 0),
  (1234, 1, .iaload, 0, 0, 0, 0, 0),
  (1235, 3, .invokevirtual 168, 0, 0, 1207, 0, 151),
  (1238, 1, .aload_n 2, 0, 0, 0, 0, 0),
  (1239, 1, .aload_n 0, 0, 0, 0, 0, 0),
  (1240, 2, .iload 4, 0, 0, 0, 0, 0),
  (1242, 1, .iconst 1, 1, 0, 0, 0, 0),
  (1243, 1, .iadd, 0, 0, 0, 0, 0),
  (1244, 1, .iaload, 0, 0, 0, 0, 0),
  (1245, 3, .invokevirtual 171, 0, 0, 1687, 0, 258),
  (1248, 3, .if_icmp .eq 111, 0, 0, 0, 1359, 0),
  (1251, 1, .iconst 0, 0, 0, 0, 0, 0),
  (1252, 1, .ireturn, 0, 0, 0, 0, 0)]
set_option maxRecDepth 100000 in
theorem zk_L33 : zt_L33.all (zx_chk 272) = true := by decide +kernel
def zt_L34 : List zx_En := [
  (1253, 1, .aload_n 1, 0, 0, 0, 0, 0),
  (1254, 1, .aload_n 0, 0, 0, 0, 0, 0),
  (1255, 2, .iload 4, 0, 0, 0, 0, 0),
  (1257, 1, .iconst 1, 1, 0, 0, 0, 0),
  (1258, 1, .iadd, 0, 0, 0, 0, 0),
  (1259, 1, .iaload, 0, 0, 0, 0, 0),
  (1260, 3, .invokevirtual 172, 0, 0, 1216, 0, 152),
  (1263, 1, .aload_n 2, 0, 0, 0, 0, 0),
  (1264, 1, .aload_n 0, 0, 0, 0, 0, 0),
  (1265, 2, .iload 4, 0, 0, 0, 0, 0),
  (1267, 1, .iconst 1, 1, 0, 0, 0, 0),
  (1268, 1, .iadd, 0, 0, 0, 0, 0),
  (1269, 1, .iaload, 0, 0, 0, 0, 0),
  (1270, 3, .invokevirtual 175, 0, 0, 1692, 0, 259),
  (1273, 3, .if_icmp .eq 86, 0, 0, 0, 1359, 0),
  (1276, 1, .iconst 0, 0, 0, 0, 0, 0),
  (1277, 1, .ireturn, 0, 0, 0, 0, 0)]
set_option maxRecDepth 100000 in
theorem zk_L34 : zt_L34.all (zx_chk 272) = true := by decide +kernel
def zt_L35 : List zx_En := [
  (1278, 1, .aload_n 1, 0, 0, 0, 0, 0),
  (1279, 1, .aload_n 0, 0, 0, 0, 0, 0),
  (1280, 2, .iload 4, 0, 0, 0, 0, 0),
  (1282, 1, .iconst 1, 1, 0, 0, 0, 0),
  (1283, 1, .iadd, 0, 0, 0, 0, 0),
  (1284, 1, .iaload, 0, 0, 0, 0, 0),
  (1285, 3, .invokevirtual 176, 0, 0, 1225, 0, 153),
  (1288, 1, .aload_n 2, 0, 0, 0, 0, 0),
  (1289, 1, .aload_n 0, 0, 0, 0, 0, 0),
  (1290, 2, .iload 4, 0, 0, 0, 0, 0),
  (1292, 1, .iconst 1, 1, 0, 0, 0, 0),
  (1293, 1, .iadd, 0, 0, 0, 0, 0),
  (1294, 1, .iaload, 0, 0, 0, 0, 0),
  (1295, 3, .invokevirtual 179, 0, 0, 1696, 0, 262),
  (1298, 3, .if_icmp .eq 61, 0, 0, 0, 1359, 0),
  (1301, 1, .iconst 0, 0, 0, 0, 0, 0),
  (1302, 1, .ireturn, 0, 0, 0, 0, 0)]
set_option maxRecDepth 100000 in
theorem zk_L35 : zt_L35.all (zx_chk 272) = true := by decide +kernel
def zt_L36 : List zx_En := [
  (1303, 1, .aload_n 1, 0, 0, 0, 0, 0),
  (1304, 1, .aload_n 0, 0, 0, 0, 0, 0),
  (1305, 2, .iload 4, 0, 0, 0, 0, 0),
  (1307, 1, .iconst 1, 1, 0, 0, 0, 0),
  (1308, 1, .iadd, 0, 0, 0, 0, 0),
  (1309, 1, .iaload, 0, 0, 0, 0, 0),
  (1310, 1, .aload_n 3, 0, 0, 0, 0, 0),
  (1311, 3, .invokestatic 180, 0, 0, 1302, 9, 1001),
  (1314, 2, .istore 5, 0, 0, 0, 0, 0),
  (1316, 1, .aload_n 2, 0, 0, 0, 0, 0),
  (1317, 1, .aload_n 0, 0, 0, 0, 0, 0),
  (1318, 2, .iload 4, 0, 0, 0, 0, 0),
  (1320, 1, .iconst 1, 1, 0, 0, 0, 0),
  (1321, 1, .iadd, 0, 0, 0, 0, 0),
  (1322, 1, .iaload, 0, 0, 0, 0, 0),
  (1323, 3, .invokevirtual 183, 0, 0, 1861, 0, 264),
  (1326, 2, .istore 6, 0, 0, 0, 0, 0),
  (1328, 1, .aload_n 2, 0, 0, 0, 0, 0),
  (1329, 3, .invokevirtual 48, 0, 0, 1309, 0, 165),
  (1332, 2, .iload 5, 0, 0, 0, 0, 0),
  (1334, 3, .if_icmp .eq 5, 0, 0, 0, 1339, 0),
  (1337, 1, .iconst 0, 0, 0, 0, 0, 0),
  (1338, 1, .ireturn, 0, 0, 0, 0, 0),
  (1339, 2, .iload 5, 0, 0, 0, 0, 0),
  (1341, 3, .ifCond .ne 15, 0, 0, 0, 1356, 0),
  (1344, 1, .aload_n 3, 0, 0, 0, 0, 0),
  (1345, 1, .iconst 0, 0, 0, 0, 0, 0),
  (1346, 1, .laload, 0, 0, 0, 0, 0),
  (1347, 2, .iload 6, 0, 0, 0, 0, 0),
  (1349, 1, .i2l, 0, 0, 0, 0, 0),
  (1350, 1, .lcmp, 0, 0, 0, 0, 0),
  (1351, 3, .ifCond .eq 5, 0, 0, 0, 1356, 0),
  (1354, 1, .iconst 0, 0, 0, 0, 0, 0),
  (1355, 1, .ireturn, 0, 0, 0, 0, 0),
  (1356, 3, .goto 3, 0, 0, 0, 1359, 0)]
set_option maxRecDepth 100000 in
theorem zk_L36 : zt_L36.all (zx_chk 272) = true := by decide +kernel
def zt_Le : List zx_En := [
  (1359, 3, .iinc 4 5, 5, 0, 0, 0, 0),
  (1362, 3, .goto (-1339), 0, 0, 0, 23, 0),
  (1365, 1, .iconst 1, 1, 0, 0, 0, 0),
  (1366, 1, .ireturn, 0, 0, 0, 0, 0)]
set_option maxRecDepth 100000 in
theorem zk_Le : zt_Le.all (zx_chk 272) = true := by decide +kernel
